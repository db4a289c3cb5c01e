/-! THE JUDGEMENT over the abstract memory -/
/-- where a static field lies, its class's statics cell in H -/
def vx_L (C n d : String) (A : Nat → Prop) (U : State) (H : Heap) : Prop := ∃ (c : ClassId) (k : Class) (i : Nat) (f : Field) (a : Nat) (cell : Cell), U.vm.findClass C = some c ∧ U.fieldFound? C n d = some (c, k, i, f) ∧ f.isStatic = true ∧ k.statics = some a ∧ H[a]? = some cell ∧ cell.vm.isStatics = true ∧ cell.cls = c ∧ f.slot < cell.slots.size ∧ k.staticTypes[f.slot]? = some f.type ∧ ¬ A a
theorem vx_L.moved {C n d : String} {A : Nat → Prop} {u U : State} {H : Heap} (hvm : u.vm.Alike U.vm) (h : vx_L C n d A u H) : vx_L C n d A U H := by
  obtain ⟨c, k, i, f, a, cell, h1, h2, h3, h4, h5, h6, h7, h8, h9, h10⟩ := h
  obtain ⟨k', hi', he⟩ := State.fieldFound?_setVm hvm h2
  exact ⟨c, k', i, f, a, cell, by rw [hvm.findClass]; exact h1, hi', h3, by rw [he]; exact h4, h5, h6, h7, h8, by rw [he]; exact h9, h10⟩
theorem vx_L.kept {C n d : String} {A : Nat → Prop} {U : State} {H H1 : Heap} (h : vx_L C n d A U H) (hq : ∀ a : Nat, a < H.size → ¬ A a → H1[a]? = H[a]?) : vx_L C n d A U H1 := by
  obtain ⟨c, k, i, f, a, cell, h1, h2, h3, h4, h5, h6, h7, h8, h9, h10⟩ := h
  exact ⟨c, k, i, f, a, cell, h1, h2, h3, h4, by rw [hq a (Array.getElem?_eq_some_iff.mp h5).1 h10]; exact h5, h6, h7, h8, h9, h10⟩
theorem vx_L.narrow {C n d : String} {A B : Nat → Prop} {U : State} {H : Heap} (h : vx_L C n d A U H) (hAB : ∀ q, B q → A q) : vx_L C n d B U H := by
  obtain ⟨c, k, i, f, a, cell, h1, h2, h3, h4, h5, h6, h7, h8, h9, h10⟩ := h
  exact ⟨c, k, i, f, a, cell, h1, h2, h3, h4, h5, h6, h7, h8, h9, fun z => h10 (hAB _ z)⟩
theorem vx_L.word {C n d : String} {A : Nat → Prop} {s : State} {args : Array Value} (h : vx_L C n d A s s.heap) : (Cond.laysStatic C n d).before args s = true := by
  obtain ⟨c, k, i, f, a, cell, h1, h2, h3, h4, h5, h6, h7, h8, h9, -⟩ := h
  show (Cond.laysStatic C n d).holds args s none s [] = true
  exact Cond.laysStatic_of h1 h2 h3 h4 h5 h6 h7 h8 h9
/-- .. and what it holds: null or some reference -/
def vx_Zq (C n d : String) (A : Nat → Prop) (U : State) (H : Heap) : Prop := va_Zq C n d A U H ∧ vx_L C n d A U H
theorem vx_Zq.moved {C n d : String} {A : Nat → Prop} {u U : State} {H : Heap} (hvm : u.vm.Alike U.vm) (h : vx_Zq C n d A u H) : vx_Zq C n d A U H := ⟨va_Zq.moved hvm h.1, vx_L.moved hvm h.2⟩
theorem vx_Zq.kept {C n d : String} {A : Nat → Prop} {U : State} {H H1 : Heap} (h : vx_Zq C n d A U H) (hq : ∀ a : Nat, a < H.size → ¬ A a → H1[a]? = H[a]?) : vx_Zq C n d A U H1 := ⟨va_Zq.kept h.1 hq, vx_L.kept h.2 hq⟩
theorem vx_Zq.narrow {C n d : String} {A B : Nat → Prop} {U : State} {H : Heap} (h : vx_Zq C n d A U H) (hAB : ∀ q, B q → A q) : vx_Zq C n d B U H := ⟨va_Zq.narrow h.1 hAB, vx_L.narrow h.2 hAB⟩
def z_wd : List Int32 := [98, 105, 116, 32, 112, 104, 97, 115, 101, 32, 98, 111, 116, 104, 32, 109, 105, 115, 115, 32, 114, 111, 117, 110, 100, 32, 119, 101, 105, 103, 104, 32, 108, 97, 116, 101, 32, 97, 103, 97, 105, 110, 32]
def z_sbyt : List (List Int32) := [[75, 107], [], [82, 67, 78], [75, 107, 78], [78, 91], [82, 67], [98, 105, 116], [112, 104, 97, 115, 101], [98, 111, 116, 104], [109, 105, 115, 115], [114, 111, 117, 110, 100], [119, 101, 105, 103, 104], [108, 97, 116, 101], [97, 103, 97, 105, 110]]
def z_slen : List Nat := [2, 0, 3, 3, 2, 2, 3, 5, 4, 4, 5, 5, 4, 5]
def z_sidx : List Nat := [99, 101, 103, 105, 107, 109, 124, 130, 132, 134, 136, 138, 140, 142]
def z_stx : List String := ["Kk", "", "RCN", "KkN", "N[", "RC", "bit", "phase", "both", "miss", "round", "weigh", "late", "again"]
def z_nw : List (Nat × MethodName) := [(50, yX6_init), (57, yX4_init), (64, yX8_init), (71, yX5_init), (78, yX1_init), (85, yX3_init), (92, yX7_init), (107, yX0_startAnew)]
def z_AOA (U : State) : Prop := ∃ (cA : ClassId) (kA : Class) (cB : ClassId), U.vm.findClass "[[I" = some cA ∧ U.vm.classes[cA]? = some kA ∧ kA.kind = .array cB (.array .int) ∧ U.vm.findClass "[I" = some cB
theorem z_AOA.moved {u U : State} (hvm : u.vm.Alike U.vm) (h : z_AOA u) : z_AOA U := by
  obtain ⟨cA, kA, cB, h1, h2, h3, h4⟩ := h
  obtain ⟨k', hk', he⟩ := hvm.2.2 _ _ h2
  exact ⟨cA, k', cB, by rw [hvm.findClass]; exact h1, hk', by rw [he]; exact h3, by rw [hvm.findClass]; exact h4⟩
def z_dc : List MethodName := [Bundle.init0 "java/lang/RuntimeException", Bundle.init0 "java/lang/Exception", Bundle.init0 Bundle.tN]
/-- what lies outside and is only read: the reference's row of words, String constants, the script -/
def z_XP (G : z_G) (ad : Nat → Nat) (A : Nat → Prop) (U : State) (H : Heap) : Prop :=
  va_Z "WovenKeeperModel" "WORDS" "[B" (.ref (ad (z_X + 50))) A U H ∧ va_T .byte (ad (z_X + 50)) 43 (fun j => .int (z_wd.getD j 0)) A U H ∧
  vk_S 14 z_slen z_sbyt (fun i => ad (z_X + i)) (fun i => ad (z_X + 100 + i)) A U H ∧ va_Z "java/lang/String" "COMPACT_STRINGS" "Z" (.int 1) A U H ∧
  (∀ i, i < 14 → vk_R "WovenKeeper$Script" (z_sidx.getD i 0) (z_stx.getD i "") (ad (z_X + i)) U) ∧ va_T .int (ad (z_X + 60)) G.1 (fun j => .int (G.2 j)) A U H ∧
  (∀ q ∈ z_nw, va_Nw (.methodLinkNest RX10 q.1 q.2 "WovenKeeper") U) ∧ va_AO "WovenKeeper$Fabric" U ∧ z_AOA U ∧
  va_Zq "jdk/internal/util/Preconditions" "SIOOBE_FORMATTER" "Ljava/util/function/BiFunction;" A U H ∧ vx_Zq Bundle.tN "UNASSIGNED_STACK" Bundle.steD A U H ∧ vx_Zq Bundle.tN "SUPPRESSED_SENTINEL" Bundle.listD A U H ∧
  va_Nw (.castable "java/util/NoSuchElementException" "java/util/NoSuchElementException") U ∧ ∀ y ∈ z_dc, va_Nw (.declares y) U
theorem z_XP.ag {G : z_G} {ad ad' : Nat → Nat} {A : Nat → Prop} {U : State} {H : Heap} {n : Nat} (h : z_XP G ad A U H) (hg : z_ag n ad ad') : z_XP G ad' A U H := by
  have e : ∀ i, ad' (z_X + i) = ad (z_X + i) := fun i => hg _ (Or.inr (Nat.le_add_right _ _))
  have e2 : ∀ i, ad' (z_X + 100 + i) = ad (z_X + 100 + i) := fun i => hg _ (Or.inr (by omega))
  unfold z_XP
  simp only [e, e2]
  exact h
theorem z_XP.to {G : z_G} {ad : Nat → Nat} {A A' : Nat → Prop} {s U : State} {H : Heap} {locs : List Loc} (h : z_XP G ad A s s.heap) (hS : va_S A s.heap H locs) (hU : U.heap = H) (hW : s.WarmedH U.vm) (hA : ∀ q, A' q → A q) : z_XP G ad A' U U.heap := by
  subst hU
  obtain ⟨h1, h2, h3, h4, h5, h6, h7, h8, h9, h10, h11, h12, h13, h14⟩ := h
  exact ⟨((h1.moved hW.alike).kept hS.2.1).narrow hA, ((h2.moved hW.alike).kept hS.2.1).narrow hA, ((h3.moved hW.alike).kept hS.2.1).narrow hA, ((h4.moved hW.alike).kept hS.2.1).narrow hA, fun i hi => (h5 i hi).warm hW, ((h6.moved hW.alike).kept hS.2.1).narrow hA, fun q hq => (h7 q hq).warmM hW, h8.moved hW.alike, h9.moved hW.alike, ((h10.moved hW.alike).kept hS.2.1).narrow hA, ((h11.moved hW.alike).kept hS.2.1).narrow hA, ((h12.moved hW.alike).kept hS.2.1).narrow hA, h13.warmC hW, fun y hy => (h14 y hy).warmD hW⟩
theorem z_XP.same {G : z_G} {ad : Nat → Nat} {A : Nat → Prop} {U U' : State} (hv : U'.vm = U.vm) (hh : U'.heap = U.heap) (h : z_XP G ad A U U.heap) : z_XP G ad A U' U'.heap := by
  have hal : U.vm.Alike U'.vm := by rw [hv]; exact Vm.Alike.refl _
  rw [hh]
  obtain ⟨h1, h2, h3, h4, h5, h6, h7, h8, h9, h10, h11, h12, h13, h14⟩ := h
  exact ⟨h1.moved hal, h2.moved hal, h3.moved hal, h4.moved hal, fun i hi => (h5 i hi).same hv, h6.moved hal, fun q hq => (h7 q hq).same rfl hv.symm, h8.moved hal, h9.moved hal, h10.moved hal, h11.moved hal, h12.moved hal, h13.same rfl hv.symm, fun y hy => (h14 y hy).same rfl hv.symm⟩
def z_pr (ad : Nat → Nat) (ls : List Value) : List (Nat × Value) := (List.range ls.length).filterMap (fun j => match (ls[j]? : Option Value) with
  | some Value.null => none
  | some w => some (j, z_mv ad w)
  | none => none)
theorem z_pr_in {ad : Nat → Nat} {ls : List Value} {j : Nat} {w : Value} (h : ls[j]? = some w) (hn : w ≠ .null) : (j, z_mv ad w) ∈ z_pr ad ls := by
  refine List.mem_filterMap.mpr ⟨j, List.mem_range.mpr (List.getElem?_eq_some_iff.mp h).1, ?_⟩
  rw [h]
  cases w <;> first | rfl | exact absurd rfl hn
theorem z_pr_of {ad : Nat → Nat} {ls : List Value} {q : Nat × Value} (h : q ∈ z_pr ad ls) : ∃ w, ls[q.1]? = some w ∧ w ≠ .null ∧ q.2 = z_mv ad w := by
  obtain ⟨j, -, hj⟩ := List.mem_filterMap.mp h
  cases hl : ls[j]? with
  | none => rw [hl] at hj; cases hj
  | some w =>
    rw [hl] at hj
    cases w <;> first | (cases hj; exact ⟨_, hl, (fun z => by cases z), rfl⟩) | cases hj
abbrev z_lv (ad : Nat → Nat) (nL : Nat) (ls : List Value) (arr : Array Slot) : Prop := lv_has arr nL (z_pr ad ls)
theorem z_lv.at {ad : Nat → Nat} {nL : Nat} {ls : List Value} {arr : Array Slot} (h : z_lv ad nL ls arr) {i : Nat} {w : Value} (hi : ls[i]? = some w) (hn : w ≠ .null) : arr[i]? = some (.val (z_mv ad w)) := h.2.2 _ (z_pr_in hi hn)
theorem z_mv_cat (ad : Nat → Nat) (w : Value) : (z_mv ad w).category = w.category := by cases w <;> rfl
def z_nl (ls : List Value) (i : Nat) : Bool := match i with
  | 0 => true
  | j + 1 => match ls[j]? with
    | some (.long _) => false
    | some (.double _) => false
    | _ => true
theorem z_st1 {ad : Nat → Nat} {ls : List Value} {i : Nat} {w : Value} {arr : Array Slot} {nL : Nat} (hw : z_nl ls i = true)
    (h : lv_has arr nL ((i, z_mv ad w) :: (z_pr ad ls).filter (fun q => !(q.1 == i) && !(q.1 + 1 == i && q.2.category == 2)))) : z_lv ad nL (ls.set i w) arr := by
  refine ⟨h.1, h.2.1, fun q hq => ?_⟩
  obtain ⟨u, hu, hn, e⟩ := z_pr_of hq
  obtain ⟨j, y⟩ := q
  subst e
  by_cases hj : j = i
  · subst hj
    have hlt : j < ls.length := by
      have := (List.getElem?_eq_some_iff.mp hu).1
      simpa using this
    rw [List.getElem?_set_self hlt] at hu
    cases hu
    exact h.2.2 _ List.mem_cons_self
  · rw [List.getElem?_set_ne (fun z => hj z.symm)] at hu
    refine h.2.2 _ (List.mem_cons_of_mem _ (List.mem_filter.mpr ⟨z_pr_in hu hn, ?_⟩))
    have e1 : (j == i) = false := by simpa using hj
    rw [z_mv_cat]
    by_cases h1 : j + 1 = i
    · subst h1
      have hw : (match ls[j]? with
        | some (.long _) => false
        | some (.double _) => false
        | _ => true) = true := hw
      rw [hu] at hw
      cases u <;> simp [Value.category, e1] at hw ⊢
    · have e2 : (j + 1 == i) = false := by simpa using h1
      simp [e1, e2]
theorem z_st2 {ad : Nat → Nat} {ls : List Value} {i : Nat} {w : Value} {arr : Array Slot} {nL : Nat} (hw : z_nl ls i = true)
    (h : lv_has arr nL ((i, z_mv ad w) :: (z_pr ad ls).filter (fun q => !(q.1 == i) && (!(q.1 == i + 1) && !(q.1 + 1 == i && q.2.category == 2))))) : z_lv ad nL ((ls.set i w).set (i + 1) .null) arr := by
  refine ⟨h.1, h.2.1, fun q hq => ?_⟩
  obtain ⟨u, hu, hn, e⟩ := z_pr_of hq
  obtain ⟨j, y⟩ := q
  subst e
  by_cases hk : j = i + 1
  · subst hk
    have hlt : i + 1 < (ls.set i w).length := by
      have := (List.getElem?_eq_some_iff.mp hu).1
      simpa using this
    rw [List.getElem?_set_self hlt] at hu
    cases hu
    exact absurd rfl hn
  rw [List.getElem?_set_ne (fun z => hk z.symm)] at hu
  by_cases hj : j = i
  · subst hj
    have hlt : j < ls.length := by
      have := (List.getElem?_eq_some_iff.mp hu).1
      simpa using this
    rw [List.getElem?_set_self hlt] at hu
    cases hu
    exact h.2.2 _ List.mem_cons_self
  · rw [List.getElem?_set_ne (fun z => hj z.symm)] at hu
    refine h.2.2 _ (List.mem_cons_of_mem _ (List.mem_filter.mpr ⟨z_pr_in hu hn, ?_⟩))
    have e1 : (j == i) = false := by simpa using hj
    have e3 : (j == i + 1) = false := by simpa using hk
    rw [z_mv_cat]
    by_cases h1 : j + 1 = i
    · subst h1
      have hw : (match ls[j]? with
        | some (.long _) => false
        | some (.double _) => false
        | _ => true) = true := hw
      rw [hu] at hw
      cases u <;> simp [Value.category] at hw ⊢ <;> omega
    · have e2 : (j + 1 == i) = false := by simpa using h1
      simp [e1, e2, e3]
def z_ok (G : z_G) (d : Nat) (M : z_M) (p : Program) (R : Room) (s : State) (m : MethodId) (args : Array Value) (meth : Method) (c : Code) (D : va_G) (ty : Nat → ClassId) (A : Nat → Prop) (ad : Nat → Nat) : Prop :=
  p.tables.exec = Jvm.exec ∧ c.code = M.2.1 ∧ c.maxLocals = M.2.2.1 ∧ meth.sig.returnType = M.2.2.2 ∧ s.vm.findClass M.1.cls = some m.cls ∧ (∀ w ∈ z_TB, w.before args s = true) ∧ meth.locks = false ∧ meth.name = M.1.name ∧ va_K D z_CL (z_ty ty) s ∧ (∀ q, s.heap.size ≤ q → A q) ∧ (d ≤ R.frames ∧ 64 * d ≤ R.locals) ∧ z_XP G ad A s s.heap
theorem z_ok.ag {G : z_G} {d : Nat} {M : z_M} {p : Program} {R : Room} {s : State} {m : MethodId} {args : Array Value} {meth : Method} {c : Code} {D : va_G} {ty : Nat → ClassId} {A : Nat → Prop} {ad : Nat → Nat} {ad' : Nat → Nat} {n : Nat} (h : z_ok G d M p R s m args meth c D ty A ad) (hg : z_ag n ad ad') : z_ok G d M p R s m args meth c D ty A ad' := by
  obtain ⟨h1, h2, h3, h4, h5, h6, h7, h8, h9, h10, h11, h12⟩ := h
  exact ⟨h1, h2, h3, h4, h5, h6, h7, h8, h9, h10, h11, h12.ag hg⟩
def z_at (p : Program) (l : Launch) (e : Env) (R : Room) (s : State) (m : MethodId) (args : Array Value) (below : List Frame) (meth : Method) (c : Code) (D : va_G) (ty : Nat → ClassId) (A : Nat → Prop) (c0 s0 : Nat) (Q : State → Prop) (nL : Nat) (ad : Nat → Nat) (k : z_C) : Prop :=
  ∀ (H : Heap) (locs : List Loc) (arr : Array Slot), va_P D z_CL (z_ws ty ad k.2.2.2.1 k.2.2.2.2) H → va_D A (z_ws ty ad k.2.2.2.1 k.2.2.2.2) → va_S A s.heap H locs → z_lv ad nL k.2.1 arr → W p l e R s m args below meth c H locs (z_c k.2.2.2.1 - c0) (z_s k.2.2.2.1 - s0) Q (F0 m k.1 arr (k.2.2.1.map (z_mv ad)))
/-- from k the machine comes to k' -/
def z_R (G : z_G) (d : Nat) (M : z_M) (k k' : z_C) : Prop := z_cl k.2.2.2.1 → z_cl k'.2.2.2.1 ∧ z_n k.2.2.2.1 ≤ z_n k'.2.2.2.1 ∧ z_c k.2.2.2.1 ≤ z_c k'.2.2.2.1 ∧ z_s k.2.2.2.1 ≤ z_s k'.2.2.2.1 ∧
  ∀ (p : Program) (l : Launch) (e : Env) (R : Room) (s : State) (m : MethodId) (args : Array Value) (below : List Frame) (meth : Method) (c : Code) (D : va_G) (ty : Nat → ClassId) (A : Nat → Prop) (ad : Nat → Nat) (c0 s0 : Nat) (Q : State → Prop), z_ok G d M p R s m args meth c D ty A ad → l.stackTraces = false → c0 ≤ z_c k.2.2.2.1 → s0 ≤ z_s k.2.2.2.1 → z_c k'.2.2.2.1 - c0 ≤ R.cells → z_s k'.2.2.2.1 - s0 ≤ R.slots →
    (∀ ad', z_ag (z_n k.2.2.2.1) ad ad' → z_at p l e R s m args below meth c D ty A c0 s0 Q M.2.2.1 ad' k') → z_at p l e R s m args below meth c D ty A c0 s0 Q M.2.2.1 ad k
theorem z_R.rf {G : z_G} {d : Nat} {M : z_M} {k : z_C} : z_R G d M k k := fun h => ⟨h, Nat.le_refl _, Nat.le_refl _, Nat.le_refl _, fun _ _ _ _ _ _ _ _ _ _ _ _ _ _ _ _ _ _ _ _ _ _ _ K => K _ z_ag.rf⟩
theorem z_R.tr {G : z_G} {d : Nat} {M : z_M} {k1 k2 k3 : z_C} (h1 : z_R G d M k1 k2) (h2 : z_R G d M k2 k3) : z_R G d M k1 k3 := by
  intro hc
  obtain ⟨a1, a2, a3, a4, a5⟩ := h1 hc
  obtain ⟨b1, b2, b3, b4, b5⟩ := h2 a1
  refine ⟨b1, Nat.le_trans a2 b2, Nat.le_trans a3 b3, Nat.le_trans a4 b4, ?_⟩
  intro p l e R s m args below meth c D ty A ad c0 s0 Q ok hlt h3 h4 h5 h6 K
  refine a5 p l e R s m args below meth c D ty A ad c0 s0 Q ok hlt h3 h4 (by omega) (by omega) (fun ad' hg => ?_)
  refine b5 p l e R s m args below meth c D ty A ad' c0 s0 Q (ok.ag hg) hlt (by omega) (by omega) h5 h6 (fun ad2 hg2 => ?_)
  exact K ad2 (hg.tr hg2 a2)
theorem z_one {G : z_G} {d : Nat} {M : z_M} {pc pc' : Nat} {ls ls' st st' : List Value} {S : z_Shp} {v v' : z_Dat}
    (h : ∀ (p : Program) (l : Launch) (e : Env) (R : Room) (s : State) (m : MethodId) (args : Array Value) (below : List Frame) (meth : Method) (c : Code) (D : va_G) (ty : Nat → ClassId) (A : Nat → Prop) (ad : Nat → Nat) (c0 s0 : Nat) (Q : State → Prop), z_cl S → z_ok G d M p R s m args meth c D ty A ad → z_at p l e R s m args below meth c D ty A c0 s0 Q M.2.2.1 ad (pc', ls', st', S, v') → z_at p l e R s m args below meth c D ty A c0 s0 Q M.2.2.1 ad (pc, ls, st, S, v)) : z_R G d M (pc, ls, st, S, v) (pc', ls', st', S, v') :=
  fun hc => ⟨hc, Nat.le_refl _, Nat.le_refl _, Nat.le_refl _, fun p l e R s m args below meth c D ty A ad c0 s0 Q ok _ _ _ _ _ K => h p l e R s m args below meth c D ty A ad c0 s0 Q hc ok (K ad z_ag.rf)⟩
/-- how a method ends at k with r -/
def z_re (M : z_M) (k : z_C) : Option Value → Prop
  | none => decode M.2.1 k.1 = .ok (.return_, 1) ∧ k.2.2.1 = [] ∧ M.2.2.2 = none
  | some (.int x) => decode M.2.1 k.1 = .ok (.ireturn, 1) ∧ k.2.2.1 = [.int x] ∧ ∃ t, M.2.2.2 = some t ∧ narrow t (.int x) = .int x
  | some (.long x) => decode M.2.1 k.1 = .ok (.lreturn, 1) ∧ k.2.2.1 = [.long x] ∧ M.2.2.2 = some .long
  | some (.ref a) => decode M.2.1 k.1 = .ok (.areturn, 1) ∧ k.2.2.1 = [.ref a] ∧ ∃ C, M.2.2.2 = some (.object C)
  | some _ => False
/-- from k the method M comes to its end, and there Q -/
def z_J (G : z_G) (d : Nat) (M : z_M) (k : z_C) (Q : Option Value → z_Shp → z_Dat → Prop) : Prop := ∃ r k', Q r k'.2.2.2.1 k'.2.2.2.2 ∧ z_R G d M k k' ∧ z_re M k' r
theorem z_J.go {G : z_G} {d : Nat} {M : z_M} {k k' : z_C} {Q : Option Value → z_Shp → z_Dat → Prop} (h : z_R G d M k k') (hj : z_J G d M k' Q) : z_J G d M k Q := by
  obtain ⟨r, k2, h1, h2, h3⟩ := hj
  exact ⟨r, k2, h1, h.tr h2, h3⟩
theorem z_J.mono {G : z_G} {d : Nat} {M : z_M} {k : z_C} {Q Q' : Option Value → z_Shp → z_Dat → Prop} (hj : z_J G d M k Q) (h : ∀ r S v, Q r S v → Q' r S v) : z_J G d M k Q' := by
  obtain ⟨r, k2, h1, h2⟩ := hj
  exact ⟨r, k2, h _ _ _ h1, h2⟩
theorem z_inT {ci : Nat} (h : ci < 12) : ∀ w ∈ u_ws (z_cn ci) (z_T ci) (z_nf ci), w ∈ z_TB := by
  have key : ∀ (L : List Cond), (L.all (fun w => lw_tbl.contains w && goodWord w)) = true → ∀ w ∈ L, w ∈ z_TB := by
    intro L hL w hw
    have h1 := List.all_eq_true.mp hL w hw
    rw [Bool.and_eq_true] at h1
    exact z_TBm (List.contains_iff_mem.mp h1.1) h1.2
  rcases (show ci = 0 ∨ ci = 1 ∨ ci = 2 ∨ ci = 3 ∨ ci = 4 ∨ ci = 5 ∨ ci = 6 ∨ ci = 7 ∨ ci = 8 ∨ ci = 9 ∨ ci = 10 ∨ ci = 11 by omega) with rfl | rfl | rfl | rfl | rfl | rfl | rfl | rfl | rfl | rfl | rfl | rfl <;> exact key _ (by decide +kernel)
theorem z_tyk {ci : Nat} (h : ci < 12) : ∀ k, k < z_nf ci → parseFieldDescriptor (z_T ci k).2.2.1 = some (z_tyf ci k) := by
  rcases (show ci = 0 ∨ ci = 1 ∨ ci = 2 ∨ ci = 3 ∨ ci = 4 ∨ ci = 5 ∨ ci = 6 ∨ ci = 7 ∨ ci = 8 ∨ ci = 9 ∨ ci = 10 ∨ ci = 11 by omega) with rfl | rfl | rfl | rfl | rfl | rfl | rfl | rfl | rfl | rfl | rfl | rfl
  · exact tyX0_ok
  · exact tyX1_ok
  · exact tyX2_ok
  · exact tyX3_ok
  · exact tyX4_ok
  · exact tyX5_ok
  · exact tyX6_ok
  · exact tyX7_ok
  · exact tyX8_ok
  · exact tyX9_ok
  · exact tyX10_ok
  · exact tyX11_ok
theorem z_nmk {ci : Nat} (h : ci < 12) : ∀ a, a < z_nf ci → ∀ b, b < z_nf ci → a ≠ b → (z_T ci a).2.1 ≠ (z_T ci b).2.1 := by
  rcases (show ci = 0 ∨ ci = 1 ∨ ci = 2 ∨ ci = 3 ∨ ci = 4 ∨ ci = 5 ∨ ci = 6 ∨ ci = 7 ∨ ci = 8 ∨ ci = 9 ∨ ci = 10 ∨ ci = 11 by omega) with rfl | rfl | rfl | rfl | rfl | rfl | rfl | rfl | rfl | rfl | rfl | rfl
  · exact nmX0
  · exact nmX1
  · exact nmX2
  · exact nmX3
  · exact nmX4
  · exact nmX5
  · exact nmX6
  · exact nmX7
  · exact nmX8
  · exact nmX9
  · exact nmX10
  · exact nmX11
section ZJ
variable {G : z_G} {d : Nat} {M : z_M} {pc : Nat} {ls st : List Value} {S : z_Shp} {v : z_Dat} {Q : Option Value → z_Shp → z_Dat → Prop}
theorem zj_vret (hd : decode M.2.1 pc = .ok (.return_, 1)) (hm : M.2.2.2 = none) (hq : Q none S v) : z_J G d M (pc, ls, [], S, v) Q := ⟨none, _, hq, z_R.rf, hd, rfl, hm⟩
theorem zj_iret {x : Int32} {t : FieldType} (hd : decode M.2.1 pc = .ok (.ireturn, 1)) (hm : M.2.2.2 = some t) (hn : narrow t (.int x) = .int x) (hq : Q (some (.int x)) S v) : z_J G d M (pc, ls, [.int x], S, v) Q := ⟨some (.int x), _, hq, z_R.rf, hd, rfl, t, hm, hn⟩
theorem zj_lret {x : Int64} (hd : decode M.2.1 pc = .ok (.lreturn, 1)) (hm : M.2.2.2 = some .long) (hq : Q (some (.long x)) S v) : z_J G d M (pc, ls, [.long x], S, v) Q := ⟨some (.long x), _, hq, z_R.rf, hd, rfl, hm⟩
theorem zj_aret {x : Nat} {C : String} (hd : decode M.2.1 pc = .ok (.areturn, 1)) (hm : M.2.2.2 = some (.object C)) (hq : Q (some (.ref x)) S v) : z_J G d M (pc, ls, [.ref x], S, v) Q := ⟨some (.ref x), _, hq, z_R.rf, hd, rfl, C, hm⟩
theorem zj_iconst {n : Int} {x : Int32} (hd : decode M.2.1 pc = .ok (.iconst n, 1)) (hv : Int32.ofInt n = x) (hj : z_J G d M (pc + 1, ls, .int x :: st, S, v) Q) : z_J G d M (pc, ls, st, S, v) Q := by
  refine z_J.go (z_one ?_) hj
  intro p l e R s m args below meth c D ty A ad c0 s0 Q hcl ok K H locs arr hP hD hS hl
  obtain ⟨hx, hb, hml, hr, hown, hts, hlocks, hnm, hK, hA, hR, hX⟩ := ok
  exact lv_iconst hx hb hd hv (K H locs arr hP hD hS hl)
theorem zj_bipush {n : Int} {x : Int32} (hd : decode M.2.1 pc = .ok (.bipush n, 2)) (hv : (Int8.ofInt n).toInt32 = x) (hj : z_J G d M (pc + 2, ls, .int x :: st, S, v) Q) : z_J G d M (pc, ls, st, S, v) Q := by
  refine z_J.go (z_one ?_) hj
  intro p l e R s m args below meth c D ty A ad c0 s0 Q hcl ok K H locs arr hP hD hS hl
  obtain ⟨hx, hb, hml, hr, hown, hts, hlocks, hnm, hK, hA, hR, hX⟩ := ok
  exact lv_bipush hx hb hd hv (K H locs arr hP hD hS hl)
theorem zj_sipush {n : Int} {x : Int32} (hd : decode M.2.1 pc = .ok (.sipush n, 3)) (hv : (Int16.ofInt n).toInt32 = x) (hj : z_J G d M (pc + 3, ls, .int x :: st, S, v) Q) : z_J G d M (pc, ls, st, S, v) Q := by
  refine z_J.go (z_one ?_) hj
  intro p l e R s m args below meth c D ty A ad c0 s0 Q hcl ok K H locs arr hP hD hS hl
  obtain ⟨hx, hb, hml, hr, hown, hts, hlocks, hnm, hK, hA, hR, hX⟩ := ok
  exact lv_sipush hx hb hd hv (K H locs arr hP hD hS hl)
theorem zj_lconst {n : Fin 2} {x : Int64} (hd : decode M.2.1 pc = .ok (.lconst n, 1)) (hv : Int64.ofNat (n : Nat) = x) (hj : z_J G d M (pc + 1, ls, .long x :: st, S, v) Q) : z_J G d M (pc, ls, st, S, v) Q := by
  refine z_J.go (z_one ?_) hj
  intro p l e R s m args below meth c D ty A ad c0 s0 Q hcl ok K H locs arr hP hD hS hl
  obtain ⟨hx, hb, hml, hr, hown, hts, hlocks, hnm, hK, hA, hR, hX⟩ := ok
  exact lv_lconst hx hb hd hv (K H locs arr hP hD hS hl)
theorem zj_ldc {idx : Nat} {x : Int32} (hd : decode M.2.1 pc = .ok (.ldc idx, 2)) (hw : Cond.constant M.1.cls idx x ∈ z_TB) (hj : z_J G d M (pc + 2, ls, .int x :: st, S, v) Q) : z_J G d M (pc, ls, st, S, v) Q := by
  refine z_J.go (z_one ?_) hj
  intro p l e R s m args below meth c D ty A ad c0 s0 Q hcl ok K H locs arr hP hD hS hl
  obtain ⟨hx, hb, hml, hr, hown, hts, hlocks, hnm, hK, hA, hR, hX⟩ := ok
  exact lv_ldc hx hb hown (hts _ hw) hd (K H locs arr hP hD hS hl)
theorem zj_ldcw {idx : Nat} {x : Int32} (hd : decode M.2.1 pc = .ok (.ldc_w idx, 3)) (hw : Cond.constant M.1.cls idx x ∈ z_TB) (hj : z_J G d M (pc + 3, ls, .int x :: st, S, v) Q) : z_J G d M (pc, ls, st, S, v) Q := by
  refine z_J.go (z_one ?_) hj
  intro p l e R s m args below meth c D ty A ad c0 s0 Q hcl ok K H locs arr hP hD hS hl
  obtain ⟨hx, hb, hml, hr, hown, hts, hlocks, hnm, hK, hA, hR, hX⟩ := ok
  exact lv_ldcw hx hb hown (hts _ hw) hd (K H locs arr hP hD hS hl)
theorem zj_ldc2 {idx : Nat} {x : Int64} (hd : decode M.2.1 pc = .ok (.ldc2_w idx, 3)) (hw : Cond.constantLong M.1.cls idx x ∈ z_TB) (hj : z_J G d M (pc + 3, ls, .long x :: st, S, v) Q) : z_J G d M (pc, ls, st, S, v) Q := by
  refine z_J.go (z_one ?_) hj
  intro p l e R s m args below meth c D ty A ad c0 s0 Q hcl ok K H locs arr hP hD hS hl
  obtain ⟨hx, hb, hml, hr, hown, hts, hlocks, hnm, hK, hA, hR, hX⟩ := ok
  exact lv_ldc2 hx hb hown (hts _ hw) hd (K H locs arr hP hD hS hl)
theorem zj_iload_n {k : Fin 4} {i : Nat} {x : Int32} (hd : decode M.2.1 pc = .ok (.iload_n k, 1)) (hi : (k : Nat) = i) (hv : ls[i]? = some (.int x)) (hj : z_J G d M (pc + 1, ls, .int x :: st, S, v) Q) : z_J G d M (pc, ls, st, S, v) Q := by
  refine z_J.go (z_one ?_) hj
  intro p l e R s m args below meth c D ty A ad c0 s0 Q hcl ok K H locs arr hP hD hS hl
  obtain ⟨hx, hb, hml, hr, hown, hts, hlocks, hnm, hK, hA, hR, hX⟩ := ok
  exact lv_iload_n hx hb hd hi (hl.at hv (fun z => by cases z)) (K H locs arr hP hD hS hl)
theorem zj_iload {i : Nat} {x : Int32} (hd : decode M.2.1 pc = .ok (.iload i, 2)) (hv : ls[i]? = some (.int x)) (hj : z_J G d M (pc + 2, ls, .int x :: st, S, v) Q) : z_J G d M (pc, ls, st, S, v) Q := by
  refine z_J.go (z_one ?_) hj
  intro p l e R s m args below meth c D ty A ad c0 s0 Q hcl ok K H locs arr hP hD hS hl
  obtain ⟨hx, hb, hml, hr, hown, hts, hlocks, hnm, hK, hA, hR, hX⟩ := ok
  exact lv_iload hx hb hd (hl.at hv (fun z => by cases z)) (K H locs arr hP hD hS hl)
theorem zj_lload_n {k : Fin 4} {i : Nat} {x : Int64} (hd : decode M.2.1 pc = .ok (.lload_n k, 1)) (hi : (k : Nat) = i) (hv : ls[i]? = some (.long x)) (hj : z_J G d M (pc + 1, ls, .long x :: st, S, v) Q) : z_J G d M (pc, ls, st, S, v) Q := by
  refine z_J.go (z_one ?_) hj
  intro p l e R s m args below meth c D ty A ad c0 s0 Q hcl ok K H locs arr hP hD hS hl
  obtain ⟨hx, hb, hml, hr, hown, hts, hlocks, hnm, hK, hA, hR, hX⟩ := ok
  exact lv_lload_n hx hb hd hi (hl.at hv (fun z => by cases z)) (K H locs arr hP hD hS hl)
theorem zj_lload {i : Nat} {x : Int64} (hd : decode M.2.1 pc = .ok (.lload i, 2)) (hv : ls[i]? = some (.long x)) (hj : z_J G d M (pc + 2, ls, .long x :: st, S, v) Q) : z_J G d M (pc, ls, st, S, v) Q := by
  refine z_J.go (z_one ?_) hj
  intro p l e R s m args below meth c D ty A ad c0 s0 Q hcl ok K H locs arr hP hD hS hl
  obtain ⟨hx, hb, hml, hr, hown, hts, hlocks, hnm, hK, hA, hR, hX⟩ := ok
  exact lv_lload hx hb hd (hl.at hv (fun z => by cases z)) (K H locs arr hP hD hS hl)
theorem zj_aload_n {k : Fin 4} {i : Nat} {x : Nat} (hd : decode M.2.1 pc = .ok (.aload_n k, 1)) (hi : (k : Nat) = i) (hv : ls[i]? = some (.ref x)) (hj : z_J G d M (pc + 1, ls, .ref x :: st, S, v) Q) : z_J G d M (pc, ls, st, S, v) Q := by
  refine z_J.go (z_one ?_) hj
  intro p l e R s m args below meth c D ty A ad c0 s0 Q hcl ok K H locs arr hP hD hS hl
  obtain ⟨hx, hb, hml, hr, hown, hts, hlocks, hnm, hK, hA, hR, hX⟩ := ok
  exact lv_aload_n hx hb hd hi (hl.at hv (fun z => by cases z)) (K H locs arr hP hD hS hl)
theorem zj_aload {i : Nat} {x : Nat} (hd : decode M.2.1 pc = .ok (.aload i, 2)) (hv : ls[i]? = some (.ref x)) (hj : z_J G d M (pc + 2, ls, .ref x :: st, S, v) Q) : z_J G d M (pc, ls, st, S, v) Q := by
  refine z_J.go (z_one ?_) hj
  intro p l e R s m args below meth c D ty A ad c0 s0 Q hcl ok K H locs arr hP hD hS hl
  obtain ⟨hx, hb, hml, hr, hown, hts, hlocks, hnm, hK, hA, hR, hX⟩ := ok
  exact lv_aload hx hb hd (hl.at hv (fun z => by cases z)) (K H locs arr hP hD hS hl)
theorem zj_istore_n {k : Fin 4} {i : Nat} {x : Int32} {ls2 : List Value} (hd : decode M.2.1 pc = .ok (.istore_n k, 1)) (hi : (k : Nat) = i) (hn : i < M.2.2.1) (hw : z_nl ls i = true) (h2 : ls.set i (.int x) = ls2) (hj : z_J G d M (pc + 1, ls2, st, S, v) Q) : z_J G d M (pc, ls, .int x :: st, S, v) Q := by
  refine z_J.go (z_one ?_) hj
  intro p l e R s m args below meth c D ty A ad c0 s0 Q hcl ok K H locs arr hP hD hS hl
  obtain ⟨hx, hb, hml, hr, hown, hts, hlocks, hnm, hK, hA, hR, hX⟩ := ok
  subst h2
  exact lv_istore_n hx hb hd hi hl hn rfl (fun arr2 hl2 => K H locs arr2 hP hD hS (z_st1 (w := .int x) hw hl2))
theorem zj_istore {i : Nat} {x : Int32} {ls2 : List Value} (hd : decode M.2.1 pc = .ok (.istore i, 2)) (hn : i < M.2.2.1) (hw : z_nl ls i = true) (h2 : ls.set i (.int x) = ls2) (hj : z_J G d M (pc + 2, ls2, st, S, v) Q) : z_J G d M (pc, ls, .int x :: st, S, v) Q := by
  refine z_J.go (z_one ?_) hj
  intro p l e R s m args below meth c D ty A ad c0 s0 Q hcl ok K H locs arr hP hD hS hl
  obtain ⟨hx, hb, hml, hr, hown, hts, hlocks, hnm, hK, hA, hR, hX⟩ := ok
  subst h2
  exact lv_istore hx hb hd hl hn rfl (fun arr2 hl2 => K H locs arr2 hP hD hS (z_st1 (w := .int x) hw hl2))
theorem zj_astore_n {k : Fin 4} {i : Nat} {x : Nat} {ls2 : List Value} (hd : decode M.2.1 pc = .ok (.astore_n k, 1)) (hi : (k : Nat) = i) (hn : i < M.2.2.1) (hw : z_nl ls i = true) (h2 : ls.set i (.ref x) = ls2) (hj : z_J G d M (pc + 1, ls2, st, S, v) Q) : z_J G d M (pc, ls, .ref x :: st, S, v) Q := by
  refine z_J.go (z_one ?_) hj
  intro p l e R s m args below meth c D ty A ad c0 s0 Q hcl ok K H locs arr hP hD hS hl
  obtain ⟨hx, hb, hml, hr, hown, hts, hlocks, hnm, hK, hA, hR, hX⟩ := ok
  subst h2
  exact lv_astore_n hx hb hd hi hl hn rfl (fun arr2 hl2 => K H locs arr2 hP hD hS (z_st1 (w := .ref x) hw hl2))
theorem zj_astore {i : Nat} {x : Nat} {ls2 : List Value} (hd : decode M.2.1 pc = .ok (.astore i, 2)) (hn : i < M.2.2.1) (hw : z_nl ls i = true) (h2 : ls.set i (.ref x) = ls2) (hj : z_J G d M (pc + 2, ls2, st, S, v) Q) : z_J G d M (pc, ls, .ref x :: st, S, v) Q := by
  refine z_J.go (z_one ?_) hj
  intro p l e R s m args below meth c D ty A ad c0 s0 Q hcl ok K H locs arr hP hD hS hl
  obtain ⟨hx, hb, hml, hr, hown, hts, hlocks, hnm, hK, hA, hR, hX⟩ := ok
  subst h2
  exact lv_astore hx hb hd hl hn rfl (fun arr2 hl2 => K H locs arr2 hP hD hS (z_st1 (w := .ref x) hw hl2))
theorem zj_lstore_n {k : Fin 4} {i : Nat} {x : Int64} {ls2 : List Value} (hd : decode M.2.1 pc = .ok (.lstore_n k, 1)) (hi : (k : Nat) = i) (hn : i + 1 < M.2.2.1) (hw : z_nl ls i = true) (h2 : (ls.set i (.long x)).set (i + 1) .null = ls2) (hj : z_J G d M (pc + 1, ls2, st, S, v) Q) : z_J G d M (pc, ls, .long x :: st, S, v) Q := by
  refine z_J.go (z_one ?_) hj
  intro p l e R s m args below meth c D ty A ad c0 s0 Q hcl ok K H locs arr hP hD hS hl
  obtain ⟨hx, hb, hml, hr, hown, hts, hlocks, hnm, hK, hA, hR, hX⟩ := ok
  subst h2
  exact lv_lstore_n hx hb hd hi hl hn rfl (fun arr2 hl2 => K H locs arr2 hP hD hS (z_st2 (w := .long x) hw hl2))
theorem zj_lstore {i : Nat} {x : Int64} {ls2 : List Value} (hd : decode M.2.1 pc = .ok (.lstore i, 2)) (hn : i + 1 < M.2.2.1) (hw : z_nl ls i = true) (h2 : (ls.set i (.long x)).set (i + 1) .null = ls2) (hj : z_J G d M (pc + 2, ls2, st, S, v) Q) : z_J G d M (pc, ls, .long x :: st, S, v) Q := by
  refine z_J.go (z_one ?_) hj
  intro p l e R s m args below meth c D ty A ad c0 s0 Q hcl ok K H locs arr hP hD hS hl
  obtain ⟨hx, hb, hml, hr, hown, hts, hlocks, hnm, hK, hA, hR, hX⟩ := ok
  subst h2
  exact lv_lstore hx hb hd hl hn rfl (fun arr2 hl2 => K H locs arr2 hP hD hS (z_st2 (w := .long x) hw hl2))
theorem zj_iinc {i : Nat} {n : Int} {x y : Int32} {ls2 : List Value} (hd : decode M.2.1 pc = .ok (.iinc i n, 3)) (hv : ls[i]? = some (.int x)) (hy : x + Int32.ofInt n = y) (hn : i < M.2.2.1) (hw : z_nl ls i = true) (h2 : ls.set i (.int y) = ls2) (hj : z_J G d M (pc + 3, ls2, st, S, v) Q) : z_J G d M (pc, ls, st, S, v) Q := by
  refine z_J.go (z_one ?_) hj
  intro p l e R s m args below meth c D ty A ad c0 s0 Q hcl ok K H locs arr hP hD hS hl
  obtain ⟨hx, hb, hml, hr, hown, hts, hlocks, hnm, hK, hA, hR, hX⟩ := ok
  subst h2
  have hm := z_pr_in (ad := ad) hv (fun z => by cases z)
  obtain ⟨q, hq⟩ := List.mem_iff_getElem?.mp hm
  exact lv_iinc hx hb hd hl hq hy hn rfl (fun arr2 hl2 => K H locs arr2 hP hD hS (z_st1 (w := .int y) hw hl2))
theorem zj_iadd {x y : Int32} (hd : decode M.2.1 pc = .ok (.iadd, 1)) (hj : z_J G d M (pc + 1, ls, .int (x + y) :: st, S, v) Q) : z_J G d M (pc, ls, .int y :: .int x :: st, S, v) Q := by
  refine z_J.go (z_one ?_) hj
  intro p l e R s m args below meth c D ty A ad c0 s0 Q hcl ok K H locs arr hP hD hS hl
  obtain ⟨hx, hb, hml, hr, hown, hts, hlocks, hnm, hK, hA, hR, hX⟩ := ok
  exact lv_iadd hx hb hd (K H locs arr hP hD hS hl)
theorem zj_isub {x y : Int32} (hd : decode M.2.1 pc = .ok (.isub, 1)) (hj : z_J G d M (pc + 1, ls, .int (x - y) :: st, S, v) Q) : z_J G d M (pc, ls, .int y :: .int x :: st, S, v) Q := by
  refine z_J.go (z_one ?_) hj
  intro p l e R s m args below meth c D ty A ad c0 s0 Q hcl ok K H locs arr hP hD hS hl
  obtain ⟨hx, hb, hml, hr, hown, hts, hlocks, hnm, hK, hA, hR, hX⟩ := ok
  exact lv_isub hx hb hd (K H locs arr hP hD hS hl)
theorem zj_imul {x y : Int32} (hd : decode M.2.1 pc = .ok (.imul, 1)) (hj : z_J G d M (pc + 1, ls, .int (x * y) :: st, S, v) Q) : z_J G d M (pc, ls, .int y :: .int x :: st, S, v) Q := by
  refine z_J.go (z_one ?_) hj
  intro p l e R s m args below meth c D ty A ad c0 s0 Q hcl ok K H locs arr hP hD hS hl
  obtain ⟨hx, hb, hml, hr, hown, hts, hlocks, hnm, hK, hA, hR, hX⟩ := ok
  exact lv_imul hx hb hd (K H locs arr hP hD hS hl)
theorem zj_iand {x y : Int32} (hd : decode M.2.1 pc = .ok (.iand, 1)) (hj : z_J G d M (pc + 1, ls, .int (x &&& y) :: st, S, v) Q) : z_J G d M (pc, ls, .int y :: .int x :: st, S, v) Q := by
  refine z_J.go (z_one ?_) hj
  intro p l e R s m args below meth c D ty A ad c0 s0 Q hcl ok K H locs arr hP hD hS hl
  obtain ⟨hx, hb, hml, hr, hown, hts, hlocks, hnm, hK, hA, hR, hX⟩ := ok
  exact lv_iand hx hb hd (K H locs arr hP hD hS hl)
theorem zj_ior {x y : Int32} (hd : decode M.2.1 pc = .ok (.ior, 1)) (hj : z_J G d M (pc + 1, ls, .int (x ||| y) :: st, S, v) Q) : z_J G d M (pc, ls, .int y :: .int x :: st, S, v) Q := by
  refine z_J.go (z_one ?_) hj
  intro p l e R s m args below meth c D ty A ad c0 s0 Q hcl ok K H locs arr hP hD hS hl
  obtain ⟨hx, hb, hml, hr, hown, hts, hlocks, hnm, hK, hA, hR, hX⟩ := ok
  exact lv_ior hx hb hd (K H locs arr hP hD hS hl)
theorem zj_ixor {x y : Int32} (hd : decode M.2.1 pc = .ok (.ixor, 1)) (hj : z_J G d M (pc + 1, ls, .int (x ^^^ y) :: st, S, v) Q) : z_J G d M (pc, ls, .int y :: .int x :: st, S, v) Q := by
  refine z_J.go (z_one ?_) hj
  intro p l e R s m args below meth c D ty A ad c0 s0 Q hcl ok K H locs arr hP hD hS hl
  obtain ⟨hx, hb, hml, hr, hown, hts, hlocks, hnm, hK, hA, hR, hX⟩ := ok
  exact lv_ixor hx hb hd (K H locs arr hP hD hS hl)
theorem zj_ishl {x y : Int32} (hd : decode M.2.1 pc = .ok (.ishl, 1)) (hj : z_J G d M (pc + 1, ls, .int (x <<< (y &&& 31)) :: st, S, v) Q) : z_J G d M (pc, ls, .int y :: .int x :: st, S, v) Q := by
  refine z_J.go (z_one ?_) hj
  intro p l e R s m args below meth c D ty A ad c0 s0 Q hcl ok K H locs arr hP hD hS hl
  obtain ⟨hx, hb, hml, hr, hown, hts, hlocks, hnm, hK, hA, hR, hX⟩ := ok
  exact lv_ishl hx hb hd (K H locs arr hP hD hS hl)
theorem zj_ishr {x y : Int32} (hd : decode M.2.1 pc = .ok (.ishr, 1)) (hj : z_J G d M (pc + 1, ls, .int (x >>> (y &&& 31)) :: st, S, v) Q) : z_J G d M (pc, ls, .int y :: .int x :: st, S, v) Q := by
  refine z_J.go (z_one ?_) hj
  intro p l e R s m args below meth c D ty A ad c0 s0 Q hcl ok K H locs arr hP hD hS hl
  obtain ⟨hx, hb, hml, hr, hown, hts, hlocks, hnm, hK, hA, hR, hX⟩ := ok
  exact lv_ishr hx hb hd (K H locs arr hP hD hS hl)
theorem zj_iushr {x y : Int32} (hd : decode M.2.1 pc = .ok (.iushr, 1)) (hj : z_J G d M (pc + 1, ls, .int ((x.toUInt32 >>> (y.toUInt32 &&& Int32.toUInt32 31)).toInt32) :: st, S, v) Q) : z_J G d M (pc, ls, .int y :: .int x :: st, S, v) Q := by
  refine z_J.go (z_one ?_) hj
  intro p l e R s m args below meth c D ty A ad c0 s0 Q hcl ok K H locs arr hP hD hS hl
  obtain ⟨hx, hb, hml, hr, hown, hts, hlocks, hnm, hK, hA, hR, hX⟩ := ok
  exact lv_iushr hx hb hd rfl (K H locs arr hP hD hS hl)
theorem zj_idiv {x y : Int32} (hd : decode M.2.1 pc = .ok (.idiv, 1)) (hne : ¬ y = 0) (hj : z_J G d M (pc + 1, ls, .int (x / y) :: st, S, v) Q) : z_J G d M (pc, ls, .int y :: .int x :: st, S, v) Q := by
  refine z_J.go (z_one ?_) hj
  intro p l e R s m args below meth c D ty A ad c0 s0 Q hcl ok K H locs arr hP hD hS hl
  obtain ⟨hx, hb, hml, hr, hown, hts, hlocks, hnm, hK, hA, hR, hX⟩ := ok
  exact lv_idiv hx hb hd hne (K H locs arr hP hD hS hl)
theorem zj_irem {x y : Int32} (hd : decode M.2.1 pc = .ok (.irem, 1)) (hne : ¬ y = 0) (hj : z_J G d M (pc + 1, ls, .int (x - x / y * y) :: st, S, v) Q) : z_J G d M (pc, ls, .int y :: .int x :: st, S, v) Q := by
  refine z_J.go (z_one ?_) hj
  intro p l e R s m args below meth c D ty A ad c0 s0 Q hcl ok K H locs arr hP hD hS hl
  obtain ⟨hx, hb, hml, hr, hown, hts, hlocks, hnm, hK, hA, hR, hX⟩ := ok
  exact lv_irem hx hb hd hne (K H locs arr hP hD hS hl)
theorem zj_ladd {x y : Int64} (hd : decode M.2.1 pc = .ok (.ladd, 1)) (hj : z_J G d M (pc + 1, ls, .long (x + y) :: st, S, v) Q) : z_J G d M (pc, ls, .long y :: .long x :: st, S, v) Q := by
  refine z_J.go (z_one ?_) hj
  intro p l e R s m args below meth c D ty A ad c0 s0 Q hcl ok K H locs arr hP hD hS hl
  obtain ⟨hx, hb, hml, hr, hown, hts, hlocks, hnm, hK, hA, hR, hX⟩ := ok
  exact lv_ladd hx hb hd (K H locs arr hP hD hS hl)
theorem zj_lsub {x y : Int64} (hd : decode M.2.1 pc = .ok (.lsub, 1)) (hj : z_J G d M (pc + 1, ls, .long (x - y) :: st, S, v) Q) : z_J G d M (pc, ls, .long y :: .long x :: st, S, v) Q := by
  refine z_J.go (z_one ?_) hj
  intro p l e R s m args below meth c D ty A ad c0 s0 Q hcl ok K H locs arr hP hD hS hl
  obtain ⟨hx, hb, hml, hr, hown, hts, hlocks, hnm, hK, hA, hR, hX⟩ := ok
  exact lv_lsub hx hb hd (K H locs arr hP hD hS hl)
theorem zj_lmul {x y : Int64} (hd : decode M.2.1 pc = .ok (.lmul, 1)) (hj : z_J G d M (pc + 1, ls, .long (x * y) :: st, S, v) Q) : z_J G d M (pc, ls, .long y :: .long x :: st, S, v) Q := by
  refine z_J.go (z_one ?_) hj
  intro p l e R s m args below meth c D ty A ad c0 s0 Q hcl ok K H locs arr hP hD hS hl
  obtain ⟨hx, hb, hml, hr, hown, hts, hlocks, hnm, hK, hA, hR, hX⟩ := ok
  exact lv_lmul hx hb hd (K H locs arr hP hD hS hl)
theorem zj_ldiv {x y : Int64} (hd : decode M.2.1 pc = .ok (.ldiv, 1)) (hne : ¬ y = 0) (hj : z_J G d M (pc + 1, ls, .long (x / y) :: st, S, v) Q) : z_J G d M (pc, ls, .long y :: .long x :: st, S, v) Q := by
  refine z_J.go (z_one ?_) hj
  intro p l e R s m args below meth c D ty A ad c0 s0 Q hcl ok K H locs arr hP hD hS hl
  obtain ⟨hx, hb, hml, hr, hown, hts, hlocks, hnm, hK, hA, hR, hX⟩ := ok
  exact lv_ldiv hx hb hd hne (K H locs arr hP hD hS hl)
theorem zj_lcmp {x y : Int64} (hd : decode M.2.1 pc = .ok (.lcmp, 1)) (hj : z_J G d M (pc + 1, ls, .int (lg_cmp x y) :: st, S, v) Q) : z_J G d M (pc, ls, .long y :: .long x :: st, S, v) Q := by
  refine z_J.go (z_one ?_) hj
  intro p l e R s m args below meth c D ty A ad c0 s0 Q hcl ok K H locs arr hP hD hS hl
  obtain ⟨hx, hb, hml, hr, hown, hts, hlocks, hnm, hK, hA, hR, hX⟩ := ok
  exact W.lcmp hx hb hd (K H locs arr hP hD hS hl)
theorem zj_i2l {x : Int32} (hd : decode M.2.1 pc = .ok (.i2l, 1)) (hj : z_J G d M (pc + 1, ls, .long x.toInt64 :: st, S, v) Q) : z_J G d M (pc, ls, .int x :: st, S, v) Q := by
  refine z_J.go (z_one ?_) hj
  intro p l e R s m args below meth c D ty A ad c0 s0 Q hcl ok K H locs arr hP hD hS hl
  obtain ⟨hx, hb, hml, hr, hown, hts, hlocks, hnm, hK, hA, hR, hX⟩ := ok
  exact lv_i2l hx hb hd rfl (K H locs arr hP hD hS hl)
theorem zj_i2b {x : Int32} (hd : decode M.2.1 pc = .ok (.i2b, 1)) (hj : z_J G d M (pc + 1, ls, .int x.toInt8.toInt32 :: st, S, v) Q) : z_J G d M (pc, ls, .int x :: st, S, v) Q := by
  refine z_J.go (z_one ?_) hj
  intro p l e R s m args below meth c D ty A ad c0 s0 Q hcl ok K H locs arr hP hD hS hl
  obtain ⟨hx, hb, hml, hr, hown, hts, hlocks, hnm, hK, hA, hR, hX⟩ := ok
  exact lv_i2b hx hb hd rfl (K H locs arr hP hD hS hl)
theorem zj_i2c {x : Int32} (hd : decode M.2.1 pc = .ok (.i2c, 1)) (hj : z_J G d M (pc + 1, ls, .int (x.toUInt32 % 65536).toInt32 :: st, S, v) Q) : z_J G d M (pc, ls, .int x :: st, S, v) Q := by
  refine z_J.go (z_one ?_) hj
  intro p l e R s m args below meth c D ty A ad c0 s0 Q hcl ok K H locs arr hP hD hS hl
  obtain ⟨hx, hb, hml, hr, hown, hts, hlocks, hnm, hK, hA, hR, hX⟩ := ok
  exact lv_i2c hx hb hd rfl (K H locs arr hP hD hS hl)
theorem zj_dup {a : Value} (hd : decode M.2.1 pc = .ok (.dup, 1)) (ha : a.category = 1) (hj : z_J G d M (pc + 1, ls, a :: a :: st, S, v) Q) : z_J G d M (pc, ls, a :: st, S, v) Q := by
  refine z_J.go (z_one ?_) hj
  intro p l e R s m args below meth c D ty A ad c0 s0 Q hcl ok K H locs arr hP hD hS hl
  obtain ⟨hx, hb, hml, hr, hown, hts, hlocks, hnm, hK, hA, hR, hX⟩ := ok
  exact lv_dup hx hb hd (by rw [z_mv_cat]; exact ha) (K H locs arr hP hD hS hl)
theorem zj_pop {a : Value} (hd : decode M.2.1 pc = .ok (.pop, 1)) (ha : a.category = 1) (hj : z_J G d M (pc + 1, ls, st, S, v) Q) : z_J G d M (pc, ls, a :: st, S, v) Q := by
  refine z_J.go (z_one ?_) hj
  intro p l e R s m args below meth c D ty A ad c0 s0 Q hcl ok K H locs arr hP hD hS hl
  obtain ⟨hx, hb, hml, hr, hown, hts, hlocks, hnm, hK, hA, hR, hX⟩ := ok
  exact lv_pop hx hb hd (va := z_mv ad a) (by rw [z_mv_cat]; exact ha) (K H locs arr hP hD hS hl)
theorem zj_dup2 {a b : Value} (hd : decode M.2.1 pc = .ok (.dup2, 1)) (ha : a.category = 1) (hb2 : b.category = 1) (hj : z_J G d M (pc + 1, ls, a :: b :: a :: b :: st, S, v) Q) : z_J G d M (pc, ls, a :: b :: st, S, v) Q := by
  refine z_J.go (z_one ?_) hj
  intro p l e R s m args below meth c D ty A ad c0 s0 Q hcl ok K H locs arr hP hD hS hl
  obtain ⟨hx, hb, hml, hr, hown, hts, hlocks, hnm, hK, hA, hR, hX⟩ := ok
  exact lv_dup2_11 hx hb hd (by rw [z_mv_cat]; exact ha) (by rw [z_mv_cat]; exact hb2) (K H locs arr hP hD hS hl)
theorem zj_goto {off : Int} {tgt : Nat} (hd : decode M.2.1 pc = .ok (.goto off, 3)) (ht : (pc : Int) + off = (tgt : Int)) (hj : z_J G d M (tgt, ls, st, S, v) Q) : z_J G d M (pc, ls, st, S, v) Q := by
  refine z_J.go (z_one ?_) hj
  intro p l e R s m args below meth c D ty A ad c0 s0 Q hcl ok K H locs arr hP hD hS hl
  obtain ⟨hx, hb, hml, hr, hown, hts, hlocks, hnm, hK, hA, hR, hX⟩ := ok
  exact lv_goto hx hb hd ht (K H locs arr hP hD hS hl)
theorem zj_if_eq {x : Int32} {off : Int} {tgt : Nat} (hd : decode M.2.1 pc = .ok (.ifCond .eq off, 3)) (ht : (pc : Int) + off = (tgt : Int)) (hj : x = 0 → z_J G d M (tgt, ls, st, S, v) Q) (hf : ¬ x = 0 → z_J G d M (pc + 3, ls, st, S, v) Q) : z_J G d M (pc, ls, .int x :: st, S, v) Q := by
  by_cases hc : x = 0
  · refine z_J.go (z_one ?_) (hj hc)
    intro p l e R s m args below meth c D ty A ad c0 s0 Q hcl ok K H locs arr hP hD hS hl
    obtain ⟨hx, hb, hml, hr, hown, hts, hlocks, hnm, hK, hA, hR, hX⟩ := ok
    exact lv_if_eq hx hb hd ht (fun _ => (K H locs arr hP hD hS hl)) (fun z => absurd hc z)
  · refine z_J.go (z_one ?_) (hf hc)
    intro p l e R s m args below meth c D ty A ad c0 s0 Q hcl ok K H locs arr hP hD hS hl
    obtain ⟨hx, hb, hml, hr, hown, hts, hlocks, hnm, hK, hA, hR, hX⟩ := ok
    exact lv_if_eq hx hb hd ht (fun z => absurd z hc) (fun _ => (K H locs arr hP hD hS hl))
theorem zj_if_ne {x : Int32} {off : Int} {tgt : Nat} (hd : decode M.2.1 pc = .ok (.ifCond .ne off, 3)) (ht : (pc : Int) + off = (tgt : Int)) (hj : ¬ x = 0 → z_J G d M (tgt, ls, st, S, v) Q) (hf : x = 0 → z_J G d M (pc + 3, ls, st, S, v) Q) : z_J G d M (pc, ls, .int x :: st, S, v) Q := by
  by_cases hc : x = 0
  · refine z_J.go (z_one ?_) (hf hc)
    intro p l e R s m args below meth c D ty A ad c0 s0 Q hcl ok K H locs arr hP hD hS hl
    obtain ⟨hx, hb, hml, hr, hown, hts, hlocks, hnm, hK, hA, hR, hX⟩ := ok
    exact lv_if_ne hx hb hd ht (fun z => absurd hc z) (fun _ => (K H locs arr hP hD hS hl))
  · refine z_J.go (z_one ?_) (hj hc)
    intro p l e R s m args below meth c D ty A ad c0 s0 Q hcl ok K H locs arr hP hD hS hl
    obtain ⟨hx, hb, hml, hr, hown, hts, hlocks, hnm, hK, hA, hR, hX⟩ := ok
    exact lv_if_ne hx hb hd ht (fun _ => (K H locs arr hP hD hS hl)) (fun z => absurd z hc)
theorem zj_if_lt {x : Int32} {off : Int} {tgt : Nat} (hd : decode M.2.1 pc = .ok (.ifCond .lt off, 3)) (ht : (pc : Int) + off = (tgt : Int)) (hj : x < 0 → z_J G d M (tgt, ls, st, S, v) Q) (hf : ¬ x < 0 → z_J G d M (pc + 3, ls, st, S, v) Q) : z_J G d M (pc, ls, .int x :: st, S, v) Q := by
  by_cases hc : x < 0
  · refine z_J.go (z_one ?_) (hj hc)
    intro p l e R s m args below meth c D ty A ad c0 s0 Q hcl ok K H locs arr hP hD hS hl
    obtain ⟨hx, hb, hml, hr, hown, hts, hlocks, hnm, hK, hA, hR, hX⟩ := ok
    exact lv_if_lt hx hb hd ht (fun _ => (K H locs arr hP hD hS hl)) (fun z => absurd hc z)
  · refine z_J.go (z_one ?_) (hf hc)
    intro p l e R s m args below meth c D ty A ad c0 s0 Q hcl ok K H locs arr hP hD hS hl
    obtain ⟨hx, hb, hml, hr, hown, hts, hlocks, hnm, hK, hA, hR, hX⟩ := ok
    exact lv_if_lt hx hb hd ht (fun z => absurd z hc) (fun _ => (K H locs arr hP hD hS hl))
theorem zj_if_ge {x : Int32} {off : Int} {tgt : Nat} (hd : decode M.2.1 pc = .ok (.ifCond .ge off, 3)) (ht : (pc : Int) + off = (tgt : Int)) (hj : 0 ≤ x → z_J G d M (tgt, ls, st, S, v) Q) (hf : ¬ 0 ≤ x → z_J G d M (pc + 3, ls, st, S, v) Q) : z_J G d M (pc, ls, .int x :: st, S, v) Q := by
  by_cases hc : 0 ≤ x
  · refine z_J.go (z_one ?_) (hj hc)
    intro p l e R s m args below meth c D ty A ad c0 s0 Q hcl ok K H locs arr hP hD hS hl
    obtain ⟨hx, hb, hml, hr, hown, hts, hlocks, hnm, hK, hA, hR, hX⟩ := ok
    exact lv_if_ge hx hb hd ht (fun _ => (K H locs arr hP hD hS hl)) (fun z => absurd hc z)
  · refine z_J.go (z_one ?_) (hf hc)
    intro p l e R s m args below meth c D ty A ad c0 s0 Q hcl ok K H locs arr hP hD hS hl
    obtain ⟨hx, hb, hml, hr, hown, hts, hlocks, hnm, hK, hA, hR, hX⟩ := ok
    exact lv_if_ge hx hb hd ht (fun z => absurd z hc) (fun _ => (K H locs arr hP hD hS hl))
theorem zj_if_gt {x : Int32} {off : Int} {tgt : Nat} (hd : decode M.2.1 pc = .ok (.ifCond .gt off, 3)) (ht : (pc : Int) + off = (tgt : Int)) (hj : 0 < x → z_J G d M (tgt, ls, st, S, v) Q) (hf : ¬ 0 < x → z_J G d M (pc + 3, ls, st, S, v) Q) : z_J G d M (pc, ls, .int x :: st, S, v) Q := by
  by_cases hc : 0 < x
  · refine z_J.go (z_one ?_) (hj hc)
    intro p l e R s m args below meth c D ty A ad c0 s0 Q hcl ok K H locs arr hP hD hS hl
    obtain ⟨hx, hb, hml, hr, hown, hts, hlocks, hnm, hK, hA, hR, hX⟩ := ok
    exact lv_if_gt hx hb hd ht (fun _ => (K H locs arr hP hD hS hl)) (fun z => absurd hc z)
  · refine z_J.go (z_one ?_) (hf hc)
    intro p l e R s m args below meth c D ty A ad c0 s0 Q hcl ok K H locs arr hP hD hS hl
    obtain ⟨hx, hb, hml, hr, hown, hts, hlocks, hnm, hK, hA, hR, hX⟩ := ok
    exact lv_if_gt hx hb hd ht (fun z => absurd z hc) (fun _ => (K H locs arr hP hD hS hl))
theorem zj_if_le {x : Int32} {off : Int} {tgt : Nat} (hd : decode M.2.1 pc = .ok (.ifCond .le off, 3)) (ht : (pc : Int) + off = (tgt : Int)) (hj : x ≤ 0 → z_J G d M (tgt, ls, st, S, v) Q) (hf : ¬ x ≤ 0 → z_J G d M (pc + 3, ls, st, S, v) Q) : z_J G d M (pc, ls, .int x :: st, S, v) Q := by
  by_cases hc : x ≤ 0
  · refine z_J.go (z_one ?_) (hj hc)
    intro p l e R s m args below meth c D ty A ad c0 s0 Q hcl ok K H locs arr hP hD hS hl
    obtain ⟨hx, hb, hml, hr, hown, hts, hlocks, hnm, hK, hA, hR, hX⟩ := ok
    exact lv_if_le hx hb hd ht (fun _ => (K H locs arr hP hD hS hl)) (fun z => absurd hc z)
  · refine z_J.go (z_one ?_) (hf hc)
    intro p l e R s m args below meth c D ty A ad c0 s0 Q hcl ok K H locs arr hP hD hS hl
    obtain ⟨hx, hb, hml, hr, hown, hts, hlocks, hnm, hK, hA, hR, hX⟩ := ok
    exact lv_if_le hx hb hd ht (fun z => absurd z hc) (fun _ => (K H locs arr hP hD hS hl))
theorem zj_icmp_eq {x y : Int32} {off : Int} {tgt : Nat} (hd : decode M.2.1 pc = .ok (.if_icmp .eq off, 3)) (ht : (pc : Int) + off = (tgt : Int)) (hj : x = y → z_J G d M (tgt, ls, st, S, v) Q) (hf : ¬ x = y → z_J G d M (pc + 3, ls, st, S, v) Q) : z_J G d M (pc, ls, .int y :: .int x :: st, S, v) Q := by
  by_cases hc : x = y
  · refine z_J.go (z_one ?_) (hj hc)
    intro p l e R s m args below meth c D ty A ad c0 s0 Q hcl ok K H locs arr hP hD hS hl
    obtain ⟨hx, hb, hml, hr, hown, hts, hlocks, hnm, hK, hA, hR, hX⟩ := ok
    exact lv_icmp_eq hx hb hd ht (fun _ => (K H locs arr hP hD hS hl)) (fun z => absurd hc z)
  · refine z_J.go (z_one ?_) (hf hc)
    intro p l e R s m args below meth c D ty A ad c0 s0 Q hcl ok K H locs arr hP hD hS hl
    obtain ⟨hx, hb, hml, hr, hown, hts, hlocks, hnm, hK, hA, hR, hX⟩ := ok
    exact lv_icmp_eq hx hb hd ht (fun z => absurd z hc) (fun _ => (K H locs arr hP hD hS hl))
theorem zj_icmp_ne {x y : Int32} {off : Int} {tgt : Nat} (hd : decode M.2.1 pc = .ok (.if_icmp .ne off, 3)) (ht : (pc : Int) + off = (tgt : Int)) (hj : ¬ x = y → z_J G d M (tgt, ls, st, S, v) Q) (hf : x = y → z_J G d M (pc + 3, ls, st, S, v) Q) : z_J G d M (pc, ls, .int y :: .int x :: st, S, v) Q := by
  by_cases hc : x = y
  · refine z_J.go (z_one ?_) (hf hc)
    intro p l e R s m args below meth c D ty A ad c0 s0 Q hcl ok K H locs arr hP hD hS hl
    obtain ⟨hx, hb, hml, hr, hown, hts, hlocks, hnm, hK, hA, hR, hX⟩ := ok
    exact lv_icmp_ne hx hb hd ht (fun z => absurd hc z) (fun _ => (K H locs arr hP hD hS hl))
  · refine z_J.go (z_one ?_) (hj hc)
    intro p l e R s m args below meth c D ty A ad c0 s0 Q hcl ok K H locs arr hP hD hS hl
    obtain ⟨hx, hb, hml, hr, hown, hts, hlocks, hnm, hK, hA, hR, hX⟩ := ok
    exact lv_icmp_ne hx hb hd ht (fun _ => (K H locs arr hP hD hS hl)) (fun z => absurd z hc)
theorem zj_icmp_lt {x y : Int32} {off : Int} {tgt : Nat} (hd : decode M.2.1 pc = .ok (.if_icmp .lt off, 3)) (ht : (pc : Int) + off = (tgt : Int)) (hj : x < y → z_J G d M (tgt, ls, st, S, v) Q) (hf : ¬ x < y → z_J G d M (pc + 3, ls, st, S, v) Q) : z_J G d M (pc, ls, .int y :: .int x :: st, S, v) Q := by
  by_cases hc : x < y
  · refine z_J.go (z_one ?_) (hj hc)
    intro p l e R s m args below meth c D ty A ad c0 s0 Q hcl ok K H locs arr hP hD hS hl
    obtain ⟨hx, hb, hml, hr, hown, hts, hlocks, hnm, hK, hA, hR, hX⟩ := ok
    exact lv_icmp_lt hx hb hd ht (fun _ => (K H locs arr hP hD hS hl)) (fun z => absurd hc z)
  · refine z_J.go (z_one ?_) (hf hc)
    intro p l e R s m args below meth c D ty A ad c0 s0 Q hcl ok K H locs arr hP hD hS hl
    obtain ⟨hx, hb, hml, hr, hown, hts, hlocks, hnm, hK, hA, hR, hX⟩ := ok
    exact lv_icmp_lt hx hb hd ht (fun z => absurd z hc) (fun _ => (K H locs arr hP hD hS hl))
theorem zj_icmp_ge {x y : Int32} {off : Int} {tgt : Nat} (hd : decode M.2.1 pc = .ok (.if_icmp .ge off, 3)) (ht : (pc : Int) + off = (tgt : Int)) (hj : y ≤ x → z_J G d M (tgt, ls, st, S, v) Q) (hf : ¬ y ≤ x → z_J G d M (pc + 3, ls, st, S, v) Q) : z_J G d M (pc, ls, .int y :: .int x :: st, S, v) Q := by
  by_cases hc : y ≤ x
  · refine z_J.go (z_one ?_) (hj hc)
    intro p l e R s m args below meth c D ty A ad c0 s0 Q hcl ok K H locs arr hP hD hS hl
    obtain ⟨hx, hb, hml, hr, hown, hts, hlocks, hnm, hK, hA, hR, hX⟩ := ok
    exact lv_icmp_ge hx hb hd ht (fun _ => (K H locs arr hP hD hS hl)) (fun z => absurd hc z)
  · refine z_J.go (z_one ?_) (hf hc)
    intro p l e R s m args below meth c D ty A ad c0 s0 Q hcl ok K H locs arr hP hD hS hl
    obtain ⟨hx, hb, hml, hr, hown, hts, hlocks, hnm, hK, hA, hR, hX⟩ := ok
    exact lv_icmp_ge hx hb hd ht (fun z => absurd z hc) (fun _ => (K H locs arr hP hD hS hl))
theorem zj_icmp_gt {x y : Int32} {off : Int} {tgt : Nat} (hd : decode M.2.1 pc = .ok (.if_icmp .gt off, 3)) (ht : (pc : Int) + off = (tgt : Int)) (hj : y < x → z_J G d M (tgt, ls, st, S, v) Q) (hf : ¬ y < x → z_J G d M (pc + 3, ls, st, S, v) Q) : z_J G d M (pc, ls, .int y :: .int x :: st, S, v) Q := by
  by_cases hc : y < x
  · refine z_J.go (z_one ?_) (hj hc)
    intro p l e R s m args below meth c D ty A ad c0 s0 Q hcl ok K H locs arr hP hD hS hl
    obtain ⟨hx, hb, hml, hr, hown, hts, hlocks, hnm, hK, hA, hR, hX⟩ := ok
    exact lv_icmp_gt hx hb hd ht (fun _ => (K H locs arr hP hD hS hl)) (fun z => absurd hc z)
  · refine z_J.go (z_one ?_) (hf hc)
    intro p l e R s m args below meth c D ty A ad c0 s0 Q hcl ok K H locs arr hP hD hS hl
    obtain ⟨hx, hb, hml, hr, hown, hts, hlocks, hnm, hK, hA, hR, hX⟩ := ok
    exact lv_icmp_gt hx hb hd ht (fun z => absurd z hc) (fun _ => (K H locs arr hP hD hS hl))
theorem zj_icmp_le {x y : Int32} {off : Int} {tgt : Nat} (hd : decode M.2.1 pc = .ok (.if_icmp .le off, 3)) (ht : (pc : Int) + off = (tgt : Int)) (hj : x ≤ y → z_J G d M (tgt, ls, st, S, v) Q) (hf : ¬ x ≤ y → z_J G d M (pc + 3, ls, st, S, v) Q) : z_J G d M (pc, ls, .int y :: .int x :: st, S, v) Q := by
  by_cases hc : x ≤ y
  · refine z_J.go (z_one ?_) (hj hc)
    intro p l e R s m args below meth c D ty A ad c0 s0 Q hcl ok K H locs arr hP hD hS hl
    obtain ⟨hx, hb, hml, hr, hown, hts, hlocks, hnm, hK, hA, hR, hX⟩ := ok
    exact lv_icmp_le hx hb hd ht (fun _ => (K H locs arr hP hD hS hl)) (fun z => absurd hc z)
  · refine z_J.go (z_one ?_) (hf hc)
    intro p l e R s m args below meth c D ty A ad c0 s0 Q hcl ok K H locs arr hP hD hS hl
    obtain ⟨hx, hb, hml, hr, hown, hts, hlocks, hnm, hK, hA, hR, hX⟩ := ok
    exact lv_icmp_le hx hb hd ht (fun z => absurd z hc) (fun _ => (K H locs arr hP hD hS hl))
theorem zj_tabIn {dflt lo hi : Int} {offs : Array Int} {len : Nat} {x : Int32} {off : Int} {tgt : Nat} (hd : decode M.2.1 pc = .ok (.tableswitch dflt lo hi offs, len)) (h1 : ¬ x.toInt < lo) (h2 : ¬ hi < x.toInt) (ho : offs[(x.toInt - lo).toNat]? = some off) (ht : (pc : Int) + off = (tgt : Int)) (hj : z_J G d M (tgt, ls, st, S, v) Q) : z_J G d M (pc, ls, .int x :: st, S, v) Q := by
  refine z_J.go (z_one ?_) hj
  intro p l e R s m args below meth c D ty A ad c0 s0 Q hcl ok K H locs arr hP hD hS hl
  obtain ⟨hx, hb, hml, hr, hown, hts, hlocks, hnm, hK, hA, hR, hX⟩ := ok
  exact lv_tableIn hx hb hd h1 h2 ho ht (K H locs arr hP hD hS hl)
theorem zj_tabOut {dflt lo hi : Int} {offs : Array Int} {len : Nat} {x : Int32} {tgt : Nat} (hd : decode M.2.1 pc = .ok (.tableswitch dflt lo hi offs, len)) (h : x.toInt < lo ∨ hi < x.toInt) (ht : (pc : Int) + dflt = (tgt : Int)) (hj : z_J G d M (tgt, ls, st, S, v) Q) : z_J G d M (pc, ls, .int x :: st, S, v) Q := by
  refine z_J.go (z_one ?_) hj
  intro p l e R s m args below meth c D ty A ad c0 s0 Q hcl ok K H locs arr hP hD hS hl
  obtain ⟨hx, hb, hml, hr, hown, hts, hlocks, hnm, hK, hA, hR, hX⟩ := ok
  exact lv_tableOut hx hb hd h ht (K H locs arr hP hD hS hl)
theorem zj_lookup {dflt : Int} {ps : Array (Int × Int)} {len : Nat} {x : Int32} {off : Int} {tgt : Nat} (hd : decode M.2.1 pc = .ok (.lookupswitch dflt ps, len)) (hp : (ps.toList.zip (ps.toList.drop 1)).all (fun (a, next) => a.1 < next.1) = true) (ho : Op.lookupswitch.offset ps.toList dflt x.toInt = off) (ht : (pc : Int) + off = (tgt : Int)) (hj : z_J G d M (tgt, ls, st, S, v) Q) : z_J G d M (pc, ls, .int x :: st, S, v) Q := by
  refine z_J.go (z_one ?_) hj
  intro p l e R s m args below meth c D ty A ad c0 s0 Q hcl ok K H locs arr hP hD hS hl
  obtain ⟨hx, hb, hml, hr, hown, hts, hlocks, hnm, hK, hA, hR, hX⟩ := ok
  exact lv_lookup hx hb hd hp ho ht (K H locs arr hP hD hS hl)
theorem zj_getI {idx a ci j : Nat} (hd : decode M.2.1 pc = .ok (.getfield idx, 3)) (hw : Cond.fieldLink M.1.cls idx (z_T ci j).1 (z_T ci j).2.1 (z_T ci j).2.2.1 ∈ z_TB) (hc : ci < 12) (hj2 : j < z_nf ci) (hk : z_k S a = ci + 1) (hr2 : z_isr ci j = false) (hj : z_J G d M (pc + 3, ls, .int (v a j) :: st, S, v) Q) : z_J G d M (pc, ls, .ref a :: st, S, v) Q := by
  refine z_J.go (z_one ?_) hj
  intro p l e R s m args below meth c D ty A ad c0 s0 Q hcl ok K H locs arr hP hD hS hl
  obtain ⟨hx, hb, hml, hr, hown, hts, hlocks, hnm, hK, hA, hR, hX⟩ := ok
  exact va_get hx hb hts (z_inT hc) hown hK hP a (z_wl_get (z_lt hcl hk) |>.trans (by rw [z_E_o hk hc])) (z_CLg hc) j hj2 (hts _ hw) (fun _ h => h) (v := .int (v a j)) (by rw [z_fs_get hj2, hr2]; rfl) hd (K H locs arr hP hD hS hl)
theorem zj_getR {idx a ci j b : Nat} (hd : decode M.2.1 pc = .ok (.getfield idx, 3)) (hw : Cond.fieldLink M.1.cls idx (z_T ci j).1 (z_T ci j).2.1 (z_T ci j).2.2.1 ∈ z_TB) (hc : ci < 12) (hj2 : j < z_nf ci) (hk : z_k S a = ci + 1) (hr2 : z_isr ci j = true) (hb2 : z_r S a j = some b) (hj : z_J G d M (pc + 3, ls, .ref b :: st, S, v) Q) : z_J G d M (pc, ls, .ref a :: st, S, v) Q := by
  refine z_J.go (z_one ?_) hj
  intro p l e R s m args below meth c D ty A ad c0 s0 Q hcl ok K H locs arr hP hD hS hl
  obtain ⟨hx, hb, hml, hr, hown, hts, hlocks, hnm, hK, hA, hR, hX⟩ := ok
  exact va_get hx hb hts (z_inT hc) hown hK hP a (z_wl_get (z_lt hcl hk) |>.trans (by rw [z_E_o hk hc])) (z_CLg hc) j hj2 (hts _ hw) (fun _ h => h) (v := .ref (ad b)) (by rw [z_fs_get hj2, hr2]; rw [hb2]; rfl) hd (K H locs arr hP hD hS hl)
theorem zj_putI {idx a ci j : Nat} {x : Int32} (hd : decode M.2.1 pc = .ok (.putfield idx, 3)) (hw : Cond.fieldLink M.1.cls idx (z_T ci j).1 (z_T ci j).2.1 (z_T ci j).2.2.1 ∈ z_TB) (hc : ci < 12) (hj2 : j < z_nf ci) (hk : z_k S a = ci + 1) (hr2 : z_isr ci j = false) (hfin : (z_T ci j).2.2.2 = false) (hn : narrow (z_tyf ci j) (.int x) = .int x) (hfit : fits (z_tyf ci j) (.int x) = true) (hj : ∀ v2, v2 = z_u v a j x → z_J G d M (pc + 3, ls, st, S, v2) Q) : z_J G d M (pc, ls, .int x :: .ref a :: st, S, v) Q := by
  refine z_J.go (z_one ?_) (hj _ rfl)
  intro p l e R s m args below meth c D ty A ad c0 s0 Q hcl ok K H locs arr hP hD hS hl
  obtain ⟨hx, hb, hml, hr, hown, hts, hlocks, hnm, hK, hA, hR, hX⟩ := ok
  have he : (z_ws ty ad S v)[a]? = some (ad a, .inr (ci, z_fs ad S v ci a)) := z_wl_get (z_lt hcl hk) |>.trans (by rw [z_E_o hk hc])
  refine va_put hx hb hts (z_inT hc) (z_tyf ci) (z_tyk hc) (z_nmk hc) hown hK hP hD hS a he (z_CLg hc) j hj2 (hts _ hw) (fun _ h => h) hfin (z_tyk hc j hj2) (v := .int x) hn hfit (by rw [z_fs_len]; exact hj2) hd (fun H1 locs1 hP1 hD1 hS1 => ?_)
  rw [z_wl_set (E' := z_E ty ad S (z_u v a j x)) (by rw [z_E_o hk hc, z_fs_u hj2 hr2]) (fun b _ hb => z_E_v (z_u_ne hb))] at hP1 hD1
  exact K H1 locs1 arr hP1 hD1 hS1 hl
theorem zj_putIF {idx a ci j : Nat} {x : Int32} (hd : decode M.2.1 pc = .ok (.putfield idx, 3)) (hw : Cond.fieldLink M.1.cls idx (z_T ci j).1 (z_T ci j).2.1 (z_T ci j).2.2.1 ∈ z_TB) (hc : ci < 12) (hj2 : j < z_nf ci) (hk : z_k S a = ci + 1) (hr2 : z_isr ci j = false) (hfin : (z_T ci j).2.2.2 = true) (hini : M.1.name = "<init>") (hdc : (z_T ci j).1 = M.1.cls) (hn : narrow (z_tyf ci j) (.int x) = .int x) (hfit : fits (z_tyf ci j) (.int x) = true) (hj : ∀ v2, v2 = z_u v a j x → z_J G d M (pc + 3, ls, st, S, v2) Q) : z_J G d M (pc, ls, .int x :: .ref a :: st, S, v) Q := by
  refine z_J.go (z_one ?_) (hj _ rfl)
  intro p l e R s m args below meth c D ty A ad c0 s0 Q hcl ok K H locs arr hP hD hS hl
  obtain ⟨hx, hb, hml, hr, hown, hts, hlocks, hnm, hK, hA, hR, hX⟩ := ok
  have he : (z_ws ty ad S v)[a]? = some (ad a, .inr (ci, z_fs ad S v ci a)) := z_wl_get (z_lt hcl hk) |>.trans (by rw [z_E_o hk hc])
  refine va_putF hx hb hts (z_inT hc) (z_tyf ci) (z_tyk hc) (z_nmk hc) hown hK hP hD hS a he (z_CLg hc) j hj2 (hts _ hw) (fun _ h => h) hfin (hnm.trans hini) hdc (z_tyk hc j hj2) (v := .int x) hn hfit (by rw [z_fs_len]; exact hj2) hd (fun H1 locs1 hP1 hD1 hS1 => ?_)
  rw [z_wl_set (E' := z_E ty ad S (z_u v a j x)) (by rw [z_E_o hk hc, z_fs_u hj2 hr2]) (fun b _ hb => z_E_v (z_u_ne hb))] at hP1 hD1
  exact K H1 locs1 arr hP1 hD1 hS1 hl
theorem zj_putR {idx a ci j b : Nat} (hd : decode M.2.1 pc = .ok (.putfield idx, 3)) (hw : Cond.fieldLink M.1.cls idx (z_T ci j).1 (z_T ci j).2.1 (z_T ci j).2.2.1 ∈ z_TB) (hc : ci < 12) (hj2 : j < z_nf ci) (hk : z_k S a = ci + 1) (hr2 : z_isr ci j = true) (hfin : (z_T ci j).2.2.2 = false) (hn : ∀ q, narrow (z_tyf ci j) (.ref q) = .ref q) (hfit : ∀ q, fits (z_tyf ci j) (.ref q) = true) (hv2 : b < z_n S ∨ z_X ≤ b) (hj : z_J G d M (pc + 3, ls, st, z_sr S a j (some b), v) Q) : z_J G d M (pc, ls, .ref b :: .ref a :: st, S, v) Q := by
  refine z_J.go ?_ hj
  intro hcl
  refine ⟨z_cl_r hcl (fun q hq => by cases hq; exact hv2), Nat.le_refl _, Nat.le_refl _, Nat.le_refl _, ?_⟩
  intro p l e R s m args below meth c D ty A ad c0 s0 Q ok _ _ _ _ _ K0
  have K := K0 ad z_ag.rf
  intro H locs arr hP hD hS hl
  obtain ⟨hx, hb, hml, hr, hown, hts, hlocks, hnm, hK, hA, hR, hX⟩ := ok
  have he : (z_ws ty ad S v)[a]? = some (ad a, .inr (ci, z_fs ad S v ci a)) := z_wl_get (z_lt hcl hk) |>.trans (by rw [z_E_o hk hc])
  refine va_put hx hb hts (z_inT hc) (z_tyf ci) (z_tyk hc) (z_nmk hc) hown hK hP hD hS a he (z_CLg hc) j hj2 (hts _ hw) (fun _ h => h) hfin (z_tyk hc j hj2) (v := .ref (ad b)) (hn _) (hfit _) (by rw [z_fs_len]; exact hj2) hd (fun H1 locs1 hP1 hD1 hS1 => ?_)
  rw [z_wl_set (E' := z_E ty ad (z_sr S a j (some b)) v) (by rw [z_E_o (S := z_sr S a j (some b)) hk hc, z_fs_r hj2 hr2]; rfl) (fun b _ hb => z_E_r hb)] at hP1 hD1
  exact K H1 locs1 arr hP1 hD1 hS1 hl
theorem zj_putRF {idx a ci j b : Nat} (hd : decode M.2.1 pc = .ok (.putfield idx, 3)) (hw : Cond.fieldLink M.1.cls idx (z_T ci j).1 (z_T ci j).2.1 (z_T ci j).2.2.1 ∈ z_TB) (hc : ci < 12) (hj2 : j < z_nf ci) (hk : z_k S a = ci + 1) (hr2 : z_isr ci j = true) (hfin : (z_T ci j).2.2.2 = true) (hini : M.1.name = "<init>") (hdc : (z_T ci j).1 = M.1.cls) (hn : ∀ q, narrow (z_tyf ci j) (.ref q) = .ref q) (hfit : ∀ q, fits (z_tyf ci j) (.ref q) = true) (hv2 : b < z_n S ∨ z_X ≤ b) (hj : z_J G d M (pc + 3, ls, st, z_sr S a j (some b), v) Q) : z_J G d M (pc, ls, .ref b :: .ref a :: st, S, v) Q := by
  refine z_J.go ?_ hj
  intro hcl
  refine ⟨z_cl_r hcl (fun q hq => by cases hq; exact hv2), Nat.le_refl _, Nat.le_refl _, Nat.le_refl _, ?_⟩
  intro p l e R s m args below meth c D ty A ad c0 s0 Q ok _ _ _ _ _ K0
  have K := K0 ad z_ag.rf
  intro H locs arr hP hD hS hl
  obtain ⟨hx, hb, hml, hr, hown, hts, hlocks, hnm, hK, hA, hR, hX⟩ := ok
  have he : (z_ws ty ad S v)[a]? = some (ad a, .inr (ci, z_fs ad S v ci a)) := z_wl_get (z_lt hcl hk) |>.trans (by rw [z_E_o hk hc])
  refine va_putF hx hb hts (z_inT hc) (z_tyf ci) (z_tyk hc) (z_nmk hc) hown hK hP hD hS a he (z_CLg hc) j hj2 (hts _ hw) (fun _ h => h) hfin (hnm.trans hini) hdc (z_tyk hc j hj2) (v := .ref (ad b)) (hn _) (hfit _) (by rw [z_fs_len]; exact hj2) hd (fun H1 locs1 hP1 hD1 hS1 => ?_)
  rw [z_wl_set (E' := z_E ty ad (z_sr S a j (some b)) v) (by rw [z_E_o (S := z_sr S a j (some b)) hk hc, z_fs_r hj2 hr2]; rfl) (fun b _ hb => z_E_r hb)] at hP1 hD1
  exact K H1 locs1 arr hP1 hD1 hS1 hl
theorem zj_iaload {a : Nat} {i : Int32} (hd : decode M.2.1 pc = .ok (.iaload, 1)) (hk : z_k S a = 21) (hin : vp_in i (z_l S a)) (hj : z_J G d M (pc + 1, ls, .int (v a i.toNatClampNeg) :: st, S, v) Q) : z_J G d M (pc, ls, .int i :: .ref a :: st, S, v) Q := by
  refine z_J.go (z_one ?_) hj
  intro p l e R s m args below meth c D ty A ad c0 s0 Q hcl ok K H locs arr hP hD hS hl
  obtain ⟨hx, hb, hml, hr, hown, hts, hlocks, hnm, hK, hA, hR, hX⟩ := ok
  exact va_iald hx hb hK hP a 0 (z_wl_get (z_lt hcl hk) |>.trans (by rw [z_E_i (t := 0) hk (by omega)])) rfl hin hd (K H locs arr hP hD hS hl)
theorem zj_baload {a : Nat} {i : Int32} (hd : decode M.2.1 pc = .ok (.baload, 1)) (hk : z_k S a = 22) (hin : vp_in i (z_l S a)) (hj : z_J G d M (pc + 1, ls, .int (v a i.toNatClampNeg) :: st, S, v) Q) : z_J G d M (pc, ls, .int i :: .ref a :: st, S, v) Q := by
  refine z_J.go (z_one ?_) hj
  intro p l e R s m args below meth c D ty A ad c0 s0 Q hcl ok K H locs arr hP hD hS hl
  obtain ⟨hx, hb, hml, hr, hown, hts, hlocks, hnm, hK, hA, hR, hX⟩ := ok
  exact va_bald hx hb hK hP a 1 (z_wl_get (z_lt hcl hk) |>.trans (by rw [z_E_i (t := 1) hk (by omega)])) rfl hin hd (K H locs arr hP hD hS hl)
theorem zj_zaload {a : Nat} {i : Int32} (hd : decode M.2.1 pc = .ok (.baload, 1)) (hk : z_k S a = 23) (hin : vp_in i (z_l S a)) (hj : z_J G d M (pc + 1, ls, .int (v a i.toNatClampNeg) :: st, S, v) Q) : z_J G d M (pc, ls, .int i :: .ref a :: st, S, v) Q := by
  refine z_J.go (z_one ?_) hj
  intro p l e R s m args below meth c D ty A ad c0 s0 Q hcl ok K H locs arr hP hD hS hl
  obtain ⟨hx, hb, hml, hr, hown, hts, hlocks, hnm, hK, hA, hR, hX⟩ := ok
  exact va_zald hx hb hK hP a 2 (z_wl_get (z_lt hcl hk) |>.trans (by rw [z_E_i (t := 2) hk (by omega)])) rfl hin hd (K H locs arr hP hD hS hl)
theorem zj_iastore {a : Nat} {i x : Int32} (hd : decode M.2.1 pc = .ok (.iastore, 1)) (hk : z_k S a = 21) (hin : vp_in i (z_l S a)) (hj : ∀ v2, v2 = z_u v a i.toNatClampNeg x → z_J G d M (pc + 1, ls, st, S, v2) Q) : z_J G d M (pc, ls, .int x :: .int i :: .ref a :: st, S, v) Q := by
  refine z_J.go (z_one ?_) (hj _ rfl)
  intro p l e R s m args below meth c D ty A ad c0 s0 Q hcl ok K H locs arr hP hD hS hl
  obtain ⟨hx, hb, hml, hr, hown, hts, hlocks, hnm, hK, hA, hR, hX⟩ := ok
  refine va_iast hx hb hK hP hD hS a 0 (z_wl_get (z_lt hcl hk) |>.trans (by rw [z_E_i (t := 0) hk (by omega)])) rfl hin hd (fun H1 locs1 hP1 hD1 hS1 => ?_)
  rw [z_wl_set (E' := z_E ty ad S (z_u v a i.toNatClampNeg x)) (by rw [z_E_i (t := 0) hk (by omega), z_u_eq]) (fun b _ hb => z_E_v (z_u_ne hb))] at hP1 hD1
  exact K H1 locs1 arr hP1 hD1 hS1 hl
theorem zj_bastore {a : Nat} {i x : Int32} (hd : decode M.2.1 pc = .ok (.bastore, 1)) (hk : z_k S a = 22) (hin : vp_in i (z_l S a)) (hj : ∀ v2, v2 = z_u v a i.toNatClampNeg (vp_nar .byte x) → z_J G d M (pc + 1, ls, st, S, v2) Q) : z_J G d M (pc, ls, .int x :: .int i :: .ref a :: st, S, v) Q := by
  refine z_J.go (z_one ?_) (hj _ rfl)
  intro p l e R s m args below meth c D ty A ad c0 s0 Q hcl ok K H locs arr hP hD hS hl
  obtain ⟨hx, hb, hml, hr, hown, hts, hlocks, hnm, hK, hA, hR, hX⟩ := ok
  refine va_bast hx hb hK hP hD hS a 1 (z_wl_get (z_lt hcl hk) |>.trans (by rw [z_E_i (t := 1) hk (by omega)])) rfl hin hd (fun H1 locs1 hP1 hD1 hS1 => ?_)
  rw [z_wl_set (E' := z_E ty ad S (z_u v a i.toNatClampNeg (vp_nar .byte x))) (by rw [z_E_i (t := 1) hk (by omega), z_u_eq]) (fun b _ hb => z_E_v (z_u_ne hb))] at hP1 hD1
  exact K H1 locs1 arr hP1 hD1 hS1 hl
theorem zj_zastore {a : Nat} {i x : Int32} (hd : decode M.2.1 pc = .ok (.bastore, 1)) (hk : z_k S a = 23) (hin : vp_in i (z_l S a)) (hj : ∀ v2, v2 = z_u v a i.toNatClampNeg (vp_nar .boolean x) → z_J G d M (pc + 1, ls, st, S, v2) Q) : z_J G d M (pc, ls, .int x :: .int i :: .ref a :: st, S, v) Q := by
  refine z_J.go (z_one ?_) (hj _ rfl)
  intro p l e R s m args below meth c D ty A ad c0 s0 Q hcl ok K H locs arr hP hD hS hl
  obtain ⟨hx, hb, hml, hr, hown, hts, hlocks, hnm, hK, hA, hR, hX⟩ := ok
  refine va_zast hx hb hK hP hD hS a 2 (z_wl_get (z_lt hcl hk) |>.trans (by rw [z_E_i (t := 2) hk (by omega)])) rfl hin hd (fun H1 locs1 hP1 hD1 hS1 => ?_)
  rw [z_wl_set (E' := z_E ty ad S (z_u v a i.toNatClampNeg (vp_nar .boolean x))) (by rw [z_E_i (t := 2) hk (by omega), z_u_eq]) (fun b _ hb => z_E_v (z_u_ne hb))] at hP1 hD1
  exact K H1 locs1 arr hP1 hD1 hS1 hl
theorem zj_alen {a t : Nat} (hd : decode M.2.1 pc = .ok (.arraylength, 1)) (hk : z_k S a = t + 21) (ht : t < 3) (hj : z_J G d M (pc + 1, ls, .int (Int32.ofNat (z_l S a)) :: st, S, v) Q) : z_J G d M (pc, ls, .ref a :: st, S, v) Q := by
  refine z_J.go (z_one ?_) hj
  intro p l e R s m args below meth c D ty A ad c0 s0 Q hcl ok K H locs arr hP hD hS hl
  obtain ⟨hx, hb, hml, hr, hown, hts, hlocks, hnm, hK, hA, hR, hX⟩ := ok
  exact va_alen hx hb hK hP a t (z_wl_get (z_lt hcl hk) |>.trans (by rw [z_E_i hk ht])) (x := (z_l S a, .inl (v a))) (ty := if t = 0 then .int else if t = 1 then .byte else .boolean) (by rcases (show t = 0 ∨ t = 1 ∨ t = 2 by omega) with rfl | rfl | rfl <;> rfl) rfl hd (K H locs arr hP hD hS hl)
theorem zj_alenQ {a t : Nat} (hd : decode M.2.1 pc = .ok (.arraylength, 1)) (hk : z_k S a = t + 25) (ht : t < 2) (hj : z_J G d M (pc + 1, ls, .int (Int32.ofNat (z_l S a)) :: st, S, v) Q) : z_J G d M (pc, ls, .ref a :: st, S, v) Q := by
  refine z_J.go (z_one ?_) hj
  intro p l e R s m args below meth c D ty A ad c0 s0 Q hcl ok K H locs arr hP hD hS hl
  obtain ⟨hx, hb, hml, hr, hown, hts, hlocks, hnm, hK, hA, hR, hX⟩ := ok
  exact va_alen hx hb hK hP a (t + 4) (z_wl_get (z_lt hcl hk) |>.trans (by rw [z_E_q hk])) (x := (z_l S a, .inr (.inr (.inr (.inr (fun i => (z_r S a i).map ad)))))) (ty := if t = 0 then .array .int else .object RX0) (by rcases (show t = 0 ∨ t = 1 by omega) with rfl | rfl <;> rfl) rfl hd (K H locs arr hP hD hS hl)
theorem zj_aaload0 {a b : Nat} {i : Int32} (hd : decode M.2.1 pc = .ok (.aaload, 1)) (hk : z_k S a = 25) (hin : vp_in i (z_l S a)) (hb2 : z_r S a i.toNatClampNeg = some b) (hj : z_J G d M (pc + 1, ls, .ref b :: st, S, v) Q) : z_J G d M (pc, ls, .int i :: .ref a :: st, S, v) Q := by
  refine z_J.go (z_one ?_) hj
  intro p l e R s m args below meth c D ty A ad c0 s0 Q hcl ok K H locs arr hP hD hS hl
  obtain ⟨hx, hb, hml, hr, hown, hts, hlocks, hnm, hK, hA, hR, hX⟩ := ok
  have ha : (z_ws ty ad S v)[a]? = some (ad a, .inl (ty 4, z_l S a, .inr (.inr (.inr (.inr (fun i => (z_r S a i).map ad)))))) := z_wl_get (z_lt hcl hk) |>.trans (by rw [z_E_q (t := 0) hk])
  have hlt : i.toNatClampNeg < z_l S a := Nat.not_le.mp fun q => hin (Or.inr q)
  exact W.aald (v := .ref (ad b)) (ty := .array .int) hx hb (hP a _ ha) ((hK.2 4 _ rfl).1 (z_l S a) (fun j => va_rf ((z_r S a j).map ad))) rfl (fun q => by cases q) (by show ¬ (i < 0 ∨ (arrV _ _ _).slots.size ≤ _); rw [arrV_size]; exact hin) (by show (arrV _ _ _).slots[_]? = _; rw [arrV_read _ _ hlt]; show some (va_rf ((z_r S a i.toNatClampNeg).map ad)) = _; rw [hb2]; rfl) rfl rfl hd (K H locs arr hP hD hS hl)
theorem zj_aaload1 {a b : Nat} {i : Int32} (hd : decode M.2.1 pc = .ok (.aaload, 1)) (hk : z_k S a = 26) (hin : vp_in i (z_l S a)) (hb2 : z_r S a i.toNatClampNeg = some b) (hj : z_J G d M (pc + 1, ls, .ref b :: st, S, v) Q) : z_J G d M (pc, ls, .int i :: .ref a :: st, S, v) Q := by
  refine z_J.go (z_one ?_) hj
  intro p l e R s m args below meth c D ty A ad c0 s0 Q hcl ok K H locs arr hP hD hS hl
  obtain ⟨hx, hb, hml, hr, hown, hts, hlocks, hnm, hK, hA, hR, hX⟩ := ok
  have ha : (z_ws ty ad S v)[a]? = some (ad a, .inl (ty 5, z_l S a, .inr (.inr (.inr (.inr (fun i => (z_r S a i).map ad)))))) := z_wl_get (z_lt hcl hk) |>.trans (by rw [z_E_q (t := 1) hk])
  have hlt : i.toNatClampNeg < z_l S a := Nat.not_le.mp fun q => hin (Or.inr q)
  exact W.aald (v := .ref (ad b)) (ty := .object RX0) hx hb (hP a _ ha) ((hK.2 5 _ rfl).1 (z_l S a) (fun j => va_rf ((z_r S a j).map ad))) rfl (fun q => by cases q) (by show ¬ (i < 0 ∨ (arrV _ _ _).slots.size ≤ _); rw [arrV_size]; exact hin) (by show (arrV _ _ _).slots[_]? = _; rw [arrV_read _ _ hlt]; show some (va_rf ((z_r S a i.toNatClampNeg).map ad)) = _; rw [hb2]; rfl) rfl rfl hd (K H locs arr hP hD hS hl)
theorem zj_laload {a : Nat} {i : Int32} (hd : decode M.2.1 pc = .ok (.laload, 1)) (hk : z_k S a = 24) (hin : vp_in i (z_l S a)) (hj : z_J G d M (pc + 1, ls, .long (z_w S a i.toNatClampNeg) :: st, S, v) Q) : z_J G d M (pc, ls, .int i :: .ref a :: st, S, v) Q := by
  refine z_J.go (z_one ?_) hj
  intro p l e R s m args below meth c D ty A ad c0 s0 Q hcl ok K H locs arr hP hD hS hl
  obtain ⟨hx, hb, hml, hr, hown, hts, hlocks, hnm, hK, hA, hR, hX⟩ := ok
  exact va_lald hx hb hK hP a 3 (z_wl_get (z_lt hcl hk) |>.trans (by rw [z_E_l hk])) rfl hin hd (K H locs arr hP hD hS hl)
theorem zj_sload {i : Int32} (hd : decode M.2.1 pc = .ok (.iaload, 1)) (hin : vp_in i G.1) (hj : z_J G d M (pc + 1, ls, .int (G.2 i.toNatClampNeg) :: st, S, v) Q) : z_J G d M (pc, ls, .int i :: .ref (z_X + 60) :: st, S, v) Q := by
  refine z_J.go (z_one ?_) hj
  intro p l e R s m args below meth c D ty A ad c0 s0 Q hcl ok K H locs arr hP hD hS hl
  obtain ⟨hx, hb, hml, hr, hown, hts, hlocks, hnm, hK, hA, hR, hX⟩ := ok
  exact va_ti hx hb hX.2.2.2.2.2.1 hS hin rfl hd (K H locs arr hP hD hS hl)
theorem zj_slen  (hd : decode M.2.1 pc = .ok (.arraylength, 1)) (hj : z_J G d M (pc + 1, ls, .int (Int32.ofNat G.1) :: st, S, v) Q) : z_J G d M (pc, ls, .ref (z_X + 60) :: st, S, v) Q := by
  refine z_J.go (z_one ?_) hj
  intro p l e R s m args below meth c D ty A ad c0 s0 Q hcl ok K H locs arr hP hD hS hl
  obtain ⟨hx, hb, hml, hr, hown, hts, hlocks, hnm, hK, hA, hR, hX⟩ := ok
  exact va_tlen hx hb hX.2.2.2.2.2.1 hS rfl hd (K H locs arr hP hD hS hl)
theorem zj_wload {i : Int32} (hd : decode M.2.1 pc = .ok (.baload, 1)) (hin : vp_in i 43) (hj : z_J G d M (pc + 1, ls, .int (z_wd.getD i.toNatClampNeg 0) :: st, S, v) Q) : z_J G d M (pc, ls, .int i :: .ref (z_X + 50) :: st, S, v) Q := by
  refine z_J.go (z_one ?_) hj
  intro p l e R s m args below meth c D ty A ad c0 s0 Q hcl ok K H locs arr hP hD hS hl
  obtain ⟨hx, hb, hml, hr, hown, hts, hlocks, hnm, hK, hA, hR, hX⟩ := ok
  exact va_tb hx hb hX.2.1 hS hin rfl hd (K H locs arr hP hD hS hl)
theorem zj_wlen  (hd : decode M.2.1 pc = .ok (.arraylength, 1)) (hj : z_J G d M (pc + 1, ls, .int 43 :: st, S, v) Q) : z_J G d M (pc, ls, .ref (z_X + 50) :: st, S, v) Q := by
  refine z_J.go (z_one ?_) hj
  intro p l e R s m args below meth c D ty A ad c0 s0 Q hcl ok K H locs arr hP hD hS hl
  obtain ⟨hx, hb, hml, hr, hown, hts, hlocks, hnm, hK, hA, hR, hX⟩ := ok
  exact va_tlen hx hb hX.2.1 hS rfl hd (K H locs arr hP hD hS hl)
theorem zj_wget {idx : Nat} (hd : decode M.2.1 pc = .ok (.getstatic idx, 3)) (hw : Cond.fieldLink M.1.cls idx "WovenKeeperModel" "WORDS" "[B" ∈ z_TB) (hj : z_J G d M (pc + 3, ls, .ref (z_X + 50) :: st, S, v) Q) : z_J G d M (pc, ls, st, S, v) Q := by
  refine z_J.go (z_one ?_) hj
  intro p l e R s m args below meth c D ty A ad c0 s0 Q hcl ok K H locs arr hP hD hS hl
  obtain ⟨hx, hb, hml, hr, hown, hts, hlocks, hnm, hK, hA, hR, hX⟩ := ok
  exact va_gets hx hb hX.1 hS hown (hts _ hw) (fun _ h => h) hd (K H locs arr hP hD hS hl)
theorem zj_csget {idx : Nat} (hd : decode M.2.1 pc = .ok (.getstatic idx, 3)) (hw : Cond.fieldLink M.1.cls idx "java/lang/String" "COMPACT_STRINGS" "Z" ∈ z_TB) (hj : z_J G d M (pc + 3, ls, .int 1 :: st, S, v) Q) : z_J G d M (pc, ls, st, S, v) Q := by
  refine z_J.go (z_one ?_) hj
  intro p l e R s m args below meth c D ty A ad c0 s0 Q hcl ok K H locs arr hP hD hS hl
  obtain ⟨hx, hb, hml, hr, hown, hts, hlocks, hnm, hK, hA, hR, hX⟩ := ok
  exact va_gets hx hb hX.2.2.2.1 hS hown (hts _ hw) (fun _ h => h) hd (K H locs arr hP hD hS hl)
end ZJ
