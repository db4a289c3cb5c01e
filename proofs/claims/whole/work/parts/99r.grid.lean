/-! a grid is made (multianewarray of two dimensions of ints): the machine's fill, and the rule over the abstract memory -/
def g_out (cA : ClassId) (N h0 i : Nat) : Cell := arrV cA N (fun j => va_rf (if j < i then some (h0 + 1 + j) else none))
theorem g_out_store (cA : ClassId) (N h0 i : Nat) : (g_out cA N h0 i).setSlot i (.ref (h0 + 1 + i)) = g_out cA N h0 (i + 1) := by
  unfold g_out
  rw [arrV_store]
  refine congrArg (arrV cA N) (funext fun j => ?_)
  by_cases e : j = i
  · subst e
    simp [updV, va_rf]
  · by_cases h : j < i
    · simp [updV, e, h, Nat.lt_succ_of_lt h]
    · simp [updV, e, h, show ¬ j < i + 1 by omega]
def g_row (cB : ClassId) (M : Nat) : Cell := arrV cB M (fun _ => .int 0)
def g_fill (s : State) (cA cB : ClassId) (N M : Nat) : Nat → State
  | 0 => s.pushCell (g_out cA N s.heap.size 0)
  | i + 1 => ((g_fill s cA cB N M i).pushCell (g_row cB M)).setCell s.heap.size (g_out cA N s.heap.size (i + 1))
theorem g_fill_facts (s : State) (cA cB : ClassId) (N M : Nat) : ∀ i, (g_fill s cA cB N M i).heap.size = s.heap.size + 1 + i ∧ (g_fill s cA cB N M i).heap[s.heap.size]? = some (g_out cA N s.heap.size i) ∧
    (g_fill s cA cB N M i).vm = s.vm ∧ (g_fill s cA cB N M i).slotsUsed = s.slotsUsed + N + i * M
  | 0 => ⟨by simp [g_fill], by simp [g_fill], rfl, by simp [g_fill, g_out, arrV]⟩
  | i + 1 => by
    obtain ⟨a, b, d, u⟩ := g_fill_facts s cA cB N M i
    have hlt : s.heap.size < (g_fill s cA cB N M i).heap.size := by omega
    have hb' : ((g_fill s cA cB N M i).pushCell (g_row cB M)).heap[s.heap.size]? = some (g_out cA N s.heap.size i) := by rw [State.heap_pushCell_of_lt (h := hlt)]; exact b
    refine ⟨?_, State.heap_setCell_self hb', by simp [g_fill, d], ?_⟩
    · simp [g_fill, State.setCell, a]; omega
    · simp [g_fill, u, g_row, arrV, Nat.succ_mul]; omega
theorem g_fill_top (s : State) (f : JFrame) (cA cB : ClassId) (N M : Nat) : ∀ i, g_fill (s.setTop f) cA cB N M i = (g_fill s cA cB N M i).setTop f
  | 0 => rfl
  | i + 1 => by simp only [g_fill, g_fill_top s f cA cB N M i, State.heap_setTop, State.pushCell_setTop, State.setCell_setTop]
theorem g_fill_old (s : State) (cA cB : ClassId) (N M : Nat) {a : Addr} (ha : a < s.heap.size) : ∀ i, (g_fill s cA cB N M i).heap[a]? = s.heap[a]?
  | 0 => State.heap_pushCell_of_lt _ _ ha
  | i + 1 => by
    have f1 := (g_fill_facts s cA cB N M i).1
    have hlt : a < (g_fill s cA cB N M i).heap.size := Nat.lt_of_lt_of_le ha (by rw [f1]; omega)
    show (((g_fill s cA cB N M i).pushCell (g_row cB M)).setCell s.heap.size _).heap[a]? = _
    rw [State.heap_setCell_other (Nat.ne_of_gt ha), State.heap_pushCell_of_lt (h := hlt)]
    exact g_fill_old s cA cB N M ha i
theorem g_fill_row (s : State) (cA cB : ClassId) (N M : Nat) : ∀ i j, j < i → (g_fill s cA cB N M i).heap[s.heap.size + 1 + j]? = some (g_row cB M)
  | 0, _, h => absurd h (Nat.not_lt_zero _)
  | i + 1, j, h => by
    have f1 := (g_fill_facts s cA cB N M i).1
    show (((g_fill s cA cB N M i).pushCell (g_row cB M)).setCell s.heap.size _).heap[s.heap.size + 1 + j]? = _
    rw [State.heap_setCell_other (show s.heap.size ≠ s.heap.size + 1 + j by omega)]
    rcases Nat.lt_or_ge j i with hj | hj
    · have hlt : s.heap.size + 1 + j < (g_fill s cA cB N M i).heap.size := by rw [f1]; omega
      rw [State.heap_pushCell_of_lt (h := hlt)]
      exact g_fill_row s cA cB N M i j hj
    · have e : j = i := by omega
      subst e
      rw [← f1]
      exact State.heap_pushCell_size _ _
section GW
variable {E : CtlPost} {e : Env} {d : Bool} {acts : List Action} {s : State}
theorem g_new {c comp : ClassId} {k : Class} {type : FieldType} {len : Nat} {init : Value} (hk : s.vm.classes[c]? = some k) (hkind : k.kind = .array comp type)
    (hlimit : ¬ len > e.platform.arrayLengthLimit) (hheap : ¬ len * componentBytes type > e.platform.maxHeapBytes) (hfit : fits type init = true) (hdef : init.isDefault = true) {Q : Addr → Pre}
    (h1 : s.heap.size < e.platform.maxCells) (h2 : s.slotsUsed + len ≤ e.platform.maxSlots)
    (hq : Q s.heap.size d acts (s.pushCell (arrV c len (fun _ => init)))) :
    wp (Jvm.newArray c len init) Q E e d acts s := by
  rw [← arrV_new] at hq
  have hfits : ∀ i v, (Array.replicate len init)[i]? = some v → s.fitsSlot c .none i v = true := by
    intro i v hv
    simp only [Array.getElem?_replicate] at hv
    split at hv
    · cases hv; simp [State.fitsSlot, State.slotType?, hk, hkind, hfit]
    · cases hv
  have hda : allocActs (Array.replicate len init) s.heap.size acts = acts := by
    have hall : ((Array.replicate len init).all (·.isDefault)) = true := by
      rw [Array.all_replicate]; split <;> simp [hdef]
    unfold allocActs; rw [if_pos hall]
  simp only [Jvm.newArray, Jvm.arrayFits, wp_bind', W.ask, W.ite, hlimit, if_false, wp_pure', W.theClass, hk, hkind, hheap, W.alloc, W.stop, Option.some.injEq, exists_eq_left', Array.size_replicate, hda]
  rw [if_neg (by omega)]
  exact ⟨h1, h2, hfits, hq⟩
theorem g_make1 {cB cc : ClassId} {kc : Class} {m : Int32} {M : Nat} (hkc : s.vm.classes[cB]? = some kc) (hkindc : kc.kind = .array cc .int) (hm : ¬ m < 0) (hM : m.toNatClampNeg = M)
    (hl2 : ¬ M > e.platform.arrayLengthLimit) (hh2 : ¬ M * 4 > e.platform.maxHeapBytes)
    (h1 : s.heap.size < e.platform.maxCells) (h2 : s.slotsUsed + M ≤ e.platform.maxSlots)
    {Q : Addr → Pre} (hq : Q s.heap.size d acts (s.pushCell (g_row cB M))) :
    wp (multianewarray.make cB [m]) Q E e d acts s := by
  subst hM
  rw [multianewarray.make]
  simp only [wp_bind', W.ite, hm, if_false, wp_pure', W.theClass, hkc, hkindc, Option.some.injEq, exists_eq_left']
  exact g_new hkc hkindc hl2 hh2 rfl rfl h1 h2 hq
theorem g_make2 {cA cB cc : ClassId} {k kc : Class} {n m : Int32} {N M : Nat} (hk : s.vm.classes[cA]? = some k) (hkind : k.kind = .array cB (.array .int))
    (hkc : s.vm.classes[cB]? = some kc) (hkindc : kc.kind = .array cc .int) (hn : ¬ n < 0) (hm : ¬ m < 0) (hN : n.toNatClampNeg = N) (hM : m.toNatClampNeg = M)
    (hl1 : ¬ N > e.platform.arrayLengthLimit) (hh1 : ¬ N * 4 > e.platform.maxHeapBytes) (hl2 : ¬ M > e.platform.arrayLengthLimit) (hh2 : ¬ M * 4 > e.platform.maxHeapBytes)
    (hc : s.heap.size + 1 + N ≤ e.platform.maxCells) (hs : s.slotsUsed + N + N * M ≤ e.platform.maxSlots)
    {Q : Addr → Pre} (hq : ∀ d' acts', Q s.heap.size d' acts' (g_fill s cA cB N M N)) :
    wp (multianewarray.make cA [n, m]) Q E e d acts s := by
  subst hN
  have hfind : ([m].find? (· < 0)) = none := by simp [hm]
  rw [multianewarray.make]
  simp only [wp_bind', W.ite, hn, if_false, wp_pure', W.theClass, hk, hkind, Option.some.injEq, exists_eq_left']
  refine g_new hk hkind hl1 hh1 rfl rfl (by omega) (by have := Nat.zero_le (n.toNatClampNeg * M); omega) ?_
  simp only [hfind]
  rw [ite_self, wp_bind', Std.Legacy.Range.forIn_eq_forIn_range']
  have hsz : ([:n.toNatClampNeg] : Std.Legacy.Range).size = n.toNatClampNeg := by simp [Std.Legacy.Range.size]
  rw [hsz]
  show wp (forIn (List.range' 0 n.toNatClampNeg 1) PUnit.unit _) _ E e d acts _
  refine wp_forIn_inv (fun rest s' => ∃ i, i ≤ n.toNatClampNeg ∧ rest = List.range' i (n.toNatClampNeg - i) ∧ s' = g_fill s cA cB n.toNatClampNeg M i) _ _ ⟨0, Nat.zero_le _, rfl, ?_⟩ ?_ ?_
  · show _ = s.pushCell (g_out cA n.toNatClampNeg s.heap.size 0)
    unfold g_out
    refine congrArg s.pushCell (congrArg (arrV cA n.toNatClampNeg) (funext fun j => ?_))
    simp [va_rf]
  · rintro x rest s' d' acts' Q' ⟨i, hi, hl, rfl⟩ hnext
    have hlt : i < n.toNatClampNeg := by
      rcases Nat.lt_or_ge i n.toNatClampNeg with h | h
      · exact h
      · rw [show n.toNatClampNeg - i = 0 from by omega] at hl; simp at hl
    obtain ⟨rfl, hrest⟩ : x = i ∧ rest = List.range' (i + 1) (n.toNatClampNeg - (i + 1)) := by
      rw [show n.toNatClampNeg - i = (n.toNatClampNeg - (i + 1)) + 1 from by omega, List.range'_succ] at hl
      exact ⟨(List.cons.inj hl).1, (List.cons.inj hl).2⟩
    obtain ⟨f1, f2, f3, f4⟩ := g_fill_facts s cA cB n.toNatClampNeg M x
    have hmul : x * M + M ≤ n.toNatClampNeg * M := by
      have := Nat.mul_le_mul_right M (show x + 1 ≤ n.toNatClampNeg from hlt)
      rw [Nat.succ_mul] at this; exact this
    simp only [wp_bind']
    refine g_make1 (by rw [f3]; exact hkc) hkindc hm hM hl2 hh2 (by rw [f1]; omega) (by rw [f4]; omega) ?_
    have hlt0 : s.heap.size < (g_fill s cA cB n.toNatClampNeg M x).heap.size := by rw [f1]; omega
    simp only [wp_bind', W.writeLoc, wp_pure']
    refine ⟨g_out cA n.toNatClampNeg s.heap.size x, by rw [State.heap_pushCell_of_lt (h := hlt0)]; exact f2, (by simp [g_out, arrV]), by show x < (arrV _ _ _).slots.size; rw [arrV_size]; exact hlt, ?_, hnext _ _ _ ⟨x + 1, hlt, hrest, ?_⟩⟩
    · simp [State.fitsSlot, State.slotType?, f3, hk, hkind, g_out, arrV, fits]
    · rw [f1, g_out_store]; rfl
  · rintro s' d' acts' ⟨i, hi, hl, rfl⟩
    have hiN : i = n.toNatClampNeg := by
      rcases Nat.lt_or_ge i n.toNatClampNeg with h | h
      · rw [show n.toNatClampNeg - i = (n.toNatClampNeg - (i + 1)) + 1 from by omega, List.range'_succ] at hl; cases hl
      · omega
    subst hiN
    simp only [wp_pure']
    exact hq _ _
end GW
section GS
variable {p : Program} {l : Launch} {e : Env} {R : Room} {s : State} {m : MethodId} {args : Array Value} {below : List Frame} {meth : Method} {c : Code} {T : State} {locs : List Loc} {cells slots : Nat}
theorem g_filled (X : Stand p l e R s m args below meth c T locs cells slots) (cA cB : ClassId) (N M : Nat) :
    ∀ i, Stand p l e R s m args below meth c (g_fill T cA cB N M i) (locs ++ (List.range i).map fun j => ⟨T.heap.size, j⟩) (cells + 1 + i) (slots + N + i * M)
  | 0 => by
    have h := X.pushed (g_out cA N T.heap.size 0)
    rw [show (g_out cA N T.heap.size 0).slots.size = N from arrV_size _ _ _] at h
    simpa [g_fill] using h
  | i + 1 => by
    have Xi := g_filled X cA cB N M i
    obtain ⟨f1, f2, f3, f4⟩ := g_fill_facts T cA cB N M i
    have hlt0 : T.heap.size < (g_fill T cA cB N M i).heap.size := by rw [f1]; omega
    have hcell : ((g_fill T cA cB N M i).pushCell (g_row cB M)).heap[T.heap.size]? = some (g_out cA N T.heap.size i) := by rw [State.heap_pushCell_of_lt (h := hlt0)]; exact f2
    have h := (Xi.pushed (g_row cB M)).stored hcell i (.ref (T.heap.size + 1 + i))
    have e1 : (g_row cB M).slots.size = M := arrV_size _ _ _
    rw [e1, g_out_store] at h
    have e2 : (locs ++ (List.range (i + 1)).map fun j => (⟨T.heap.size, j⟩ : Loc)) = (locs ++ (List.range i).map fun j => (⟨T.heap.size, j⟩ : Loc)) ++ [⟨T.heap.size, i⟩] := by simp [List.range_succ, List.append_assoc]
    have e3 : slots + N + (i + 1) * M = slots + N + i * M + M := by rw [Nat.succ_mul]; omega
    rw [e2, e3]
    exact h
theorem g_step (X : Stand p l e R s m args below meth c T locs cells slots) (hexec : p.tables.exec = Jvm.exec) {own : String} {index : Nat}
    (hown : s.vm.findClass own = some m.cls) (hclink : (Cond.classLink own index "[[I").before args s = true) (hover : z_AOA s) (harr : (Cond.arrayClass .int).before args s = true)
    {g : JFrame} (hg : g.method = m) (hdg : decode c.code g.pc = .ok (.multianewarray index 2, 4)) {n k : Int32} {N M : Nat} {rest : List Value} (hstack : g.stack = .int k :: .int n :: rest)
    (hn : ¬ n < 0) (hk : ¬ k < 0) (hN : n.toNatClampNeg = N) (hM : k.toNatClampNeg = M) (hb1 : N * 4 ≤ 536870912) (hb2 : M * 4 ≤ 536870912)
    (hcells : cells + (1 + N) ≤ R.cells) (hslots : slots + (N + N * M) ≤ R.slots) :
    ∃ (vm₁ : Vm) (cA cB : ClassId), s.WarmedH vm₁ ∧ s.vm.findClass "[[I" = some cA ∧ s.vm.findClass "[I" = some cB ∧
      Stand p l e R s m args below meth c (g_fill (T.setVm vm₁) cA cB N M N) locs (cells + 1 + N) (slots + N + N * M) ∧
      ∀ target, Steps p.tables e below ((g_fill (T.setVm vm₁) cA cB N M N).setTop { g with pc := g.pc + 4, stack := .ref T.heap.size :: rest }) target →
        Steps p.tables e below (T.setTop g) target := by
  subst hg
  have hpl : e.platform.magicAccessors = ({} : Platform).magicAccessors := by rw [X.admits.platform]
  obtain ⟨cA, kA, cB, hnameA, hkA, hkindA, hcomp⟩ := hover
  obtain ⟨comp', kC, cc, hcomp', hkC, hkindC⟩ := Cond.arrayClass_spec harr
  have ecomp : comp' = cB := Option.some.inj ((show s.vm.findClass "[I" = some comp' from hcomp').symm.trans hcomp)
  subst ecomp
  obtain ⟨c0, hfc0, hcl⟩ := Cond.classLink_spec hown hclink e.platform hpl
  cases hnameA.symm.trans hfc0
  obtain ⟨hg₁, hwarm₁, hready₁⟩ := State.classEntry (e := e) X.warmed hcl
  generalize T.vm.noted g.method.cls index (.cls cA) = vm₁ at hg₁ hwarm₁ hready₁
  have hal : s.vm.Alike vm₁ := hwarm₁.alike
  obtain ⟨kA₁, hkA₁, heA⟩ := hal.2.2 _ _ hkA
  obtain ⟨kC₁, hkC₁, heC⟩ := hal.2.2 _ _ hkC
  have hkindA₁ : kA₁.kind = .array comp' (.array .int) := by rw [heA]; exact hkindA
  have hkindC₁ : kC₁.kind = .array cc .int := by rw [heC]; exact hkindC
  have X₁ := X.noted hwarm₁
  obtain ⟨hr1, hr2⟩ := X.roomAbove hcells hslots
  have XF := g_filled X₁ cA comp' N M N
  refine ⟨vm₁, cA, comp', hwarm₁, hnameA, hcomp, XF.dropFresh (fun x hx => ?_), fun target hrest => ?_⟩
  · obtain ⟨j, -, rfl⟩ := List.mem_map.mp hx
    exact X.heapGrown
  have hl1 : ¬ N > e.platform.arrayLengthLimit := by rw [Launch.admits_arrayLengthLimit X.admits]; omega
  have hh1 : ¬ N * 4 > e.platform.maxHeapBytes := by rw [Launch.admits_maxHeapBytes X.admits]; omega
  have hl2 : ¬ M > e.platform.arrayLengthLimit := by rw [Launch.admits_arrayLengthLimit X.admits]; omega
  have hh2 : ¬ M * 4 > e.platform.maxHeapBytes := by rw [Launch.admits_maxHeapBytes X.admits]; omega
  jvm_step X.here [hexec, hdg]
  simp only [multianewarray.sem, wp_bind', W.resolveClassAt_links (State.method?_setTop g X.here.top) hg₁]
  rw [W.popN, if_neg (by decide)]
  refine ⟨g, State.topJava?_setTop' (s := T.setVm vm₁) g X.here.top, [.int n, .int k], rest, rfl, hstack, ?_⟩
  simp only [List.mapM_cons, List.mapM_nil, wp_bind', wp_pure']
  refine g_make2 (k := kA₁) (kc := kC₁) (cB := comp') (cc := cc) hkA₁ hkindA₁ hkC₁ hkindC₁ hn hk hN hM hl1 hh1 hl2 hh2 (by show T.heap.size + 1 + _ ≤ _; omega) (by show T.slotsUsed + _ + _ ≤ _; omega) (fun d' acts' => ?_)
  have eS : ((T.setTop g).setVm vm₁).setTop { g with stack := rest } = (T.setVm vm₁).setTop { g with stack := rest } := by
    show ((T.setVm vm₁).setTop g).setTop _ = _
    rw [State.setTop_setTop]
  rw [eS, g_fill_top]
  simp only [wp_bind', W.mark, W.pushRef, State.topJava?_setTop' _ XF.here.top, Option.some.injEq, exists_eq_left', State.setTop_setTop, State.heap_setTop]
  intro acts
  simp [jvm, XF.here.top]
  exact hrest
end GS
/-- a grid is made: n rows of length m -/
def z_gr (S : z_Shp) (n m : Nat) : z_Shp := (z_n S + 1 + n, z_c S + 1 + n, z_s S + n + n * m, (fun a => if a = z_n S then 25 else if z_n S < a ∧ a ≤ z_n S + n then 21 else z_k S a), (fun a => if a = z_n S then n else if z_n S < a ∧ a ≤ z_n S + n then m else z_l S a),
  (fun a i => if a = z_n S then (if i < n then some (z_n S + 1 + i) else none) else if z_n S < a ∧ a ≤ z_n S + n then none else z_r S a i), (fun a i => if z_n S ≤ a ∧ a ≤ z_n S + n then 0 else z_w S a i))
def z_gv (v : z_Dat) (N n : Nat) : z_Dat := fun a => if N ≤ a ∧ a ≤ N + n then (fun _ => 0) else v a
def z_ga (ad : Nat → Nat) (N n q : Nat) : Nat → Nat := fun a => if N ≤ a ∧ a ≤ N + n then q + (a - N) else ad a
theorem z_ga_ag {ad : Nat → Nat} {N n q : Nat} (hn : N + n < z_X) : z_ag N ad (z_ga ad N n q) := fun a ha => if_neg (by omega)
theorem z_cl_gr {S : z_Shp} {n m : Nat} (h : z_cl S) (hn : z_n S + 1 + n ≤ z_X) : z_cl (z_gr S n m) := by
  refine ⟨fun a ha => ?_, fun a j b ha hb => ?_, hn⟩
  · have ha : z_n S + 1 + n ≤ a := ha
    show (if a = z_n S then 25 else if z_n S < a ∧ a ≤ z_n S + n then 21 else z_k S a) = 0
    rw [if_neg (by omega), if_neg (by omega)]
    exact h.1 a (by omega)
  · have ha : a < z_n S + 1 + n := ha
    have hb : (if a = z_n S then (if j < n then some (z_n S + 1 + j) else none) else if z_n S < a ∧ a ≤ z_n S + n then none else z_r S a j) = some b := hb
    show b < z_n S + 1 + n ∨ _
    split at hb
    · split at hb
      · cases hb; omega
      · cases hb
    · split at hb
      · cases hb
      · exact (h.2.1 a j b (by omega) hb).imp (fun q => by omega) id
theorem z_E_gr {ty : Nat → ClassId} {ad : Nat → Nat} {S : z_Shp} {v : z_Dat} {n m a : Nat} (ha : a < z_n S) : z_E ty ad (z_gr S n m) (z_gv v (z_n S) n) a = z_E ty ad S v a := by
  have e1 : ¬ a = z_n S := Nat.ne_of_lt ha
  have e2 : ¬ (z_n S < a ∧ a ≤ z_n S + n) := by omega
  have e3 : ¬ (z_n S ≤ a ∧ a ≤ z_n S + n) := by omega
  unfold z_E z_fs z_gr z_gv
  simp [z_r, z_k, z_l, z_w, e1, e2, e3]
section ZG
variable {G : z_G} {d : Nat} {M : z_M} {pc : Nat} {ls st : List Value} {S : z_Shp} {v : z_Dat} {Q : Option Value → z_Shp → z_Dat → Prop}
theorem zj_grid {x y : Int32} {n k idx : Nat} (hd : decode M.2.1 pc = .ok (.multianewarray idx 2, 4)) (hw : Cond.classLink M.1.cls idx "[[I" ∈ z_TB) (hxn : x = nI n) (hyk : y = nI k) (hn : n ≤ 1000) (hk : k ≤ 1000) (hz : z_n S + 1001 < z_X) (ho1 : z_okr S ls) (ho2 : z_okr S st)
    (hj : z_J G d M (pc + 4, ls, .ref (z_n S) :: st, z_gr S n k, z_gv v (z_n S) n) Q) : z_J G d M (pc, ls, .int y :: .int x :: st, S, v) Q := by
  refine z_J.go ?_ hj
  intro hcl
  have hcl : z_cl S := hcl
  refine ⟨z_cl_gr hcl (by omega), by show z_n S ≤ z_n S + 1 + n; omega, by show z_c S ≤ z_c S + 1 + n; omega, by show z_s S ≤ z_s S + n + n * k; omega, ?_⟩
  intro p l e R s m args below meth c D ty A ad c0 s0 Q ok hlt h3 h4 h5 h6 K0 H locs arr hP hD hS hl
  obtain ⟨hx, hb, hml, hr, hown, hts, hlocks, hnm, hK, hA, hR, hX⟩ := ok
  have h5 : z_c S + 1 + n - c0 ≤ R.cells := h5
  have h6 : z_s S + n + n * k - s0 ≤ R.slots := h6
  have h3 : c0 ≤ z_c S := h3
  have h4 : s0 ≤ z_s S := h4
  show W p l e R s m args below meth c H locs (z_c S - c0) (z_s S - s0) Q (F0 m pc arr (.int y :: .int x :: st.map (z_mv ad)))
  intro T hT Xs
  obtain ⟨vm₁, cA, cB, hW, fA, fB, X', step⟩ := g_step Xs hx hown (hts _ hw) hX.2.2.2.2.2.2.2.2.1 (hts _ wa_int) (g := F0 m pc arr (.int y :: .int x :: st.map (z_mv ad))) rfl (by rw [hb]; exact hd) rfl (by rw [hxn]; exact nI_pos (by omega)) (by rw [hyk]; exact nI_pos (by omega)) (N := n) (M := k) (by rw [hxn]; exact nI_clamp (by omega)) (by rw [hyk]; exact nI_clamp (by omega)) (by omega) (by omega) (by omega) (by omega)
  have eA : cA = ty 4 := Option.some.inj (fA.symm.trans (hK.2 4 _ rfl).2)
  have eB : cB = ty 0 := Option.some.inj (fB.symm.trans (hK.2 0 _ rfl).2)
  subst eA
  subst eB
  obtain ⟨f1, f2, -, -⟩ := g_fill_facts (T.setVm vm₁) (ty 4) (ty 0) n k n
  have hTh : (T.setVm vm₁).heap = H := hT
  have f3 : ∀ a : Nat, a < H.size → (g_fill (T.setVm vm₁) (ty 4) (ty 0) n k n).heap[a]? = H[a]? := fun a ha => by
    have := g_fill_old (T.setVm vm₁) (ty 4) (ty 0) n k (a := a) (by rw [hTh]; exact ha) n
    rw [hTh] at this
    exact this
  have f4 : ∀ j : Nat, j < n → (g_fill (T.setVm vm₁) (ty 4) (ty 0) n k n).heap[H.size + 1 + j]? = some (g_row (ty 0) k) := fun j hj => by
    have := g_fill_row (T.setVm vm₁) (ty 4) (ty 0) n k n j hj
    rw [hTh] at this
    exact this
  rw [hTh] at f1 f2
  have hTs : T.heap.size = H.size := by rw [hT]
  rw [hTs] at step
  generalize g_fill (T.setVm vm₁) (ty 4) (ty 0) n k n = F at *
  have hg : z_ag (z_n S) ad (z_ga ad (z_n S) n H.size) := z_ga_ag (by omega)
  have hadn : z_ga ad (z_n S) n H.size (z_n S) = H.size := by
    unfold z_ga
    rw [if_pos (by omega), Nat.sub_self, Nat.add_zero]
  have hadr : ∀ j, j < n → z_ga ad (z_n S) n H.size (z_n S + 1 + j) = H.size + 1 + j := fun j hj => by
    unfold z_ga
    rw [if_pos (by omega)]
    omega
  have hold : ∀ a, a < z_n S → z_ga ad (z_n S) n H.size a = ad a := fun a ha => hg a (Or.inl ha)
  have hlt2 : ∀ a, a < z_n S → ad a < H.size := fun a ha => (hP a _ (z_wl_get ha)).lt
  have hws : ∀ a q, (z_ws ty (z_ga ad (z_n S) n H.size) (z_gr S n k) (z_gv v (z_n S) n))[a]? = some q → (a < z_n S + 1 + n ∧ q = (z_ga ad (z_n S) n H.size a, z_E ty (z_ga ad (z_n S) n H.size) (z_gr S n k) (z_gv v (z_n S) n) a)) := fun a q hq => by
    have ha : a < z_n S + 1 + n := by
      have h9 := (List.getElem?_eq_some_iff.mp hq).1
      simp only [z_wl, List.length_map, List.length_range] at h9
      exact h9
    exact ⟨ha, Option.some.inj (hq.symm.trans (z_wl_get (n := z_n (z_gr S n k)) ha))⟩
  have hP1 : va_P D z_CL (z_ws ty (z_ga ad (z_n S) n H.size) (z_gr S n k) (z_gv v (z_n S) n)) F.heap := by
    intro a q hq
    obtain ⟨ha, rfl⟩ := hws a q hq
    rcases Nat.lt_trichotomy a (z_n S) with h | h | h
    · rw [hold a h, z_E_gr h, z_E_ag hcl hg h]
      exact (hP a _ (z_wl_get h)).kept (f3 _ (hlt2 a h))
    · subst h
      have ek : z_k (z_gr S n k) (z_n S) = 25 := if_pos rfl
      have el : z_l (z_gr S n k) (z_n S) = n := if_pos rfl
      rw [hadn, z_E_q (t := 0) ek, el]
      show F.heap[H.size]? = some (vp_cell _ _)
      rw [vp_cell_q, f2]
      unfold g_out
      refine congrArg some (congrArg (arrV (ty 4) n) (funext fun j => ?_))
      show _ = va_rf (((if z_n S = z_n S then (if j < n then some (z_n S + 1 + j) else none) else if z_n S < z_n S ∧ z_n S ≤ z_n S + n then none else z_r S (z_n S) j) : Option Nat).map _)
      rw [if_pos rfl]
      by_cases hj : j < n
      · rw [if_pos hj, if_pos hj]
        show va_rf (some _) = va_rf (some (z_ga ad (z_n S) n H.size (z_n S + 1 + j)))
        rw [hadr j hj]
      · rw [if_neg hj, if_neg hj]; rfl
    · obtain ⟨j, rfl⟩ : ∃ j, a = z_n S + 1 + j := ⟨a - (z_n S + 1), by omega⟩
      have hj : j < n := by omega
      have ek : z_k (z_gr S n k) (z_n S + 1 + j) = 21 := by
        show (if z_n S + 1 + j = z_n S then 25 else if z_n S < z_n S + 1 + j ∧ z_n S + 1 + j ≤ z_n S + n then 21 else _) = _
        rw [if_neg (by omega), if_pos (by omega)]
      have el : z_l (z_gr S n k) (z_n S + 1 + j) = k := by
        show (if z_n S + 1 + j = z_n S then n else if z_n S < z_n S + 1 + j ∧ z_n S + 1 + j ≤ z_n S + n then k else _) = _
        rw [if_neg (by omega), if_pos (by omega)]
      have ev : z_gv v (z_n S) n (z_n S + 1 + j) = fun _ => 0 := if_pos (by omega)
      rw [hadr j hj, z_E_i (t := 0) ek (by omega), el, ev]
      exact f4 j hj
  have hD1 : va_D A (z_ws ty (z_ga ad (z_n S) n H.size) (z_gr S n k) (z_gv v (z_n S) n)) := by
    have hnew : ∀ a, z_n S ≤ a → a < z_n S + 1 + n → z_ga ad (z_n S) n H.size a = H.size + (a - z_n S) := fun a h1 h2 => if_pos (by omega)
    refine ⟨fun i j pi pj hi hj he => ?_, fun a q hq => ?_⟩
    · obtain ⟨hi2, rfl⟩ := hws i pi hi
      obtain ⟨hj2, rfl⟩ := hws j pj hj
      have he : z_ga ad (z_n S) n H.size i = z_ga ad (z_n S) n H.size j := he
      rcases Nat.lt_or_ge i (z_n S) with h1 | h1 <;> rcases Nat.lt_or_ge j (z_n S) with h2 | h2
      · rw [hold i h1, hold j h2] at he
        exact hD.1 i j _ _ (z_wl_get h1) (z_wl_get h2) he
      · rw [hold i h1, hnew j h2 hj2] at he
        have := hlt2 i h1
        omega
      · rw [hold j h2, hnew i h1 hi2] at he
        have := hlt2 j h2
        omega
      · rw [hnew i h1 hi2, hnew j h2 hj2] at he
        omega
    · obtain ⟨ha, rfl⟩ := hws a q hq
      show A (z_ga ad (z_n S) n H.size a)
      rcases Nat.lt_or_ge a (z_n S) with h | h
      · rw [hold a h]
        exact hD.2 a _ (z_wl_get h)
      · rw [hnew a h ha]
        exact hA _ (Nat.le_trans hS.1 (Nat.le_add_right _ _))
  have hS1 : va_S A s.heap F.heap locs := ⟨by rw [f1]; exact Nat.le_trans hS.1 (by omega), fun x h1 h2 => (f3 x (Nat.lt_of_lt_of_le h1 hS.1)).trans (hS.2.1 x h1 h2), hS.2.2⟩
  have e1 : z_c S - c0 + 1 + n = z_c S + 1 + n - c0 := by omega
  have e2 : z_s S - s0 + n + n * k = z_s S + n + n * k - s0 := by omega
  rw [e1, e2] at X'
  obtain ⟨t, ht, hq⟩ := K0 _ hg F.heap locs arr hP1 hD1 hS1 (z_lv_ag hg (z_okr_in hcl ls ho1) hl) F rfl X'
  refine ⟨t, step t ?_, hq⟩
  have e3 : (Value.ref (z_n S) :: st).map (z_mv (z_ga ad (z_n S) n H.size)) = .ref H.size :: st.map (z_mv ad) := by
    rw [List.map_cons, z_mv_ag hg (z_okr_in hcl st ho2)]
    show Value.ref (z_ga ad (z_n S) n H.size (z_n S)) :: _ = _
    rw [hadn]
  have ht : Steps p.tables e below (F.setTop (F0 m (pc + 4) arr ((Value.ref (z_n S) :: st).map (z_mv (z_ga ad (z_n S) n H.size))))) t := ht
  rw [e3] at ht
  exact ht
end ZG
