/-! CALLS: a method's run over the abstract memory is a contract; a call uses it -/
def z_isv : Value → Bool
  | .int _ => true
  | .long _ => true
  | .ref _ => true
  | _ => false
def z_fl : List Value → List Value
  | [] => []
  | .long x :: r => .long x :: .null :: z_fl r
  | w :: r => w :: z_fl r
def z_ent (nL : Nat) (avs : List Value) : List Value := z_fl avs ++ List.replicate (nL - (z_fl avs).length) .null
theorem z_fl_len (ad : Nat → Nat) : ∀ avs : List Value, avs.all z_isv = true → (lg_sl (avs.map (z_mv ad))).length = (z_fl avs).length
  | [], _ => rfl
  | w :: r, h => by
    rw [List.all_cons, Bool.and_eq_true] at h
    have ih := z_fl_len ad r h.2
    cases w with
    | int x => simp only [lg_sl, List.map_cons, List.flatMap_cons, z_mv, Value.category, z_fl] at ih ⊢; simp [ih]
    | long x => simp only [lg_sl, List.map_cons, List.flatMap_cons, z_mv, Value.category, z_fl] at ih ⊢; simp [ih]
    | ref x => simp only [lg_sl, List.map_cons, List.flatMap_cons, z_mv, Value.category, z_fl] at ih ⊢; simp [ih]
    | _ => cases h.1
theorem z_fl_in (ad : Nat → Nat) : ∀ (avs : List Value), avs.all z_isv = true → ∀ (i j : Nat) (w : Value), (z_fl avs)[j]? = some w → w ≠ .null → (i + j, z_mv ad w) ∈ lv_args i (avs.map (z_mv ad))
  | [], _, i, j, w, hj, _ => by simp [z_fl] at hj
  | u :: r, h, i, j, w, hj, hn => by
    rw [List.all_cons, Bool.and_eq_true] at h
    cases u with
    | int x =>
      cases j with
      | zero =>
        have hj : some (Value.int x) = some w := hj
        cases hj
        exact List.mem_cons_self
      | succ j =>
        have hj : (z_fl r)[j]? = some w := hj
        have := z_fl_in ad r h.2 (i + 1) j w hj hn
        rw [show i + (j + 1) = i + 1 + j by omega]
        exact List.mem_cons_of_mem _ this
    | ref x =>
      cases j with
      | zero =>
        have hj : some (Value.ref x) = some w := hj
        cases hj
        exact List.mem_cons_self
      | succ j =>
        have hj : (z_fl r)[j]? = some w := hj
        have := z_fl_in ad r h.2 (i + 1) j w hj hn
        rw [show i + (j + 1) = i + 1 + j by omega]
        exact List.mem_cons_of_mem _ this
    | long x =>
      cases j with
      | zero =>
        have hj : some (Value.long x) = some w := hj
        cases hj
        exact List.mem_cons_self
      | succ j =>
        cases j with
        | zero =>
          have hj : some Value.null = some w := hj
          cases hj
          exact absurd rfl hn
        | succ j =>
          have hj : (z_fl r)[j]? = some w := hj
          have := z_fl_in ad r h.2 (i + 2) j w hj hn
          rw [show i + (j + 1 + 1) = i + 2 + j by omega]
          exact List.mem_cons_of_mem _ this
    | _ => cases h.1
theorem z_entry {ad : Nat → Nat} {avs : List Value} {n : Nat} (h : avs.all z_isv = true) (hn : (z_fl avs).length ≤ n) {arr : Array Slot} (ha : lv_has arr n (lv_args 0 (avs.map (z_mv ad)))) : z_lv ad n (z_ent n avs) arr := by
  refine ⟨ha.1, ha.2.1, fun q hq => ?_⟩
  obtain ⟨w, hw, hnn, e⟩ := z_pr_of hq
  obtain ⟨j, y⟩ := q
  subst e
  have hw : (z_fl avs ++ List.replicate (n - (z_fl avs).length) Value.null)[j]? = some w := hw
  rw [List.getElem?_append] at hw
  split at hw
  · have := z_fl_in ad avs h 0 j w hw hnn
    rw [Nat.zero_add] at this
    exact ha.2.2 _ this
  · rw [List.getElem?_replicate] at hw
    split at hw
    · cases hw; exact absurd rfl hnn
    · cases hw
def z_wm (M : z_M) : List Cond := Cond.code M.1 M.2.1 M.2.2.1 M.2.2.2 :: z_TB
def z_rm (d mc ms : Nat) : Room := { frames := d, cells := mc, slots := ms, locals := 64 * d }
def z_Pc (G : z_G) (D : va_G) (ty : Nat → ClassId) (ad : Nat → Nat) (S : z_Shp) (v : z_Dat) (avs : List Value) (sz : Nat) : Array Value → State → Prop :=
  va_Pc (avs.map (z_mv ad)) (fun U => U.heap.size = sz ∧ va_P D z_CL (z_ws ty ad S v) U.heap ∧ va_K D z_CL (z_ty ty) U ∧ va_D (fun _ => True) (z_ws ty ad S v) ∧ z_XP G ad (va_A (z_ws ty ad S v) sz) U U.heap)
def z_B (D : va_G) (ty : Nat → ClassId) (A : Nat → Prop) (S : z_Shp) (v : z_Dat) (u : Nat → Nat) (t : State) : Prop := va_P D z_CL (z_ws ty u S v) t.heap ∧ va_K D z_CL (z_ty ty) t ∧ va_D A (z_ws ty u S v)
def z_Qc (D : va_G) (ty : Nat → ClassId) (ad : Nat → Nat) (A : Nat → Prop) (n : Nat) (S : z_Shp) (v : z_Dat) : Option Value → Array Value → State → Outcome → State → Prop
  | none => va_Qv (fun u => z_ag n ad u) (z_B D ty A S v) A
  | some (.int x) => va_Qi (fun y u => y = x ∧ z_ag n ad u) (z_B D ty A S v) A
  | some (.long x) => va_Ql (fun y u => y = x ∧ z_ag n ad u) (z_B D ty A S v) A
  | some (.ref a) => va_Qr (fun u => z_ag n ad u) (fun u b t => b = u a ∧ z_B D ty A S v u t) A
  | some _ => fun _ _ _ _ => False
theorem z_blind (G : z_G) (D : va_G) (ty : Nat → ClassId) (ad : Nat → Nat) (S : z_Shp) (v : z_Dat) (avs : List Value) (sz : Nat) : FrameBlind (z_Pc G D ty ad S v avs sz) := fun a U g mk q => by
  obtain ⟨q0, q1, qP, qK, qD, qX⟩ := q
  exact ⟨q0, q1, qP, va_K.moved (u := U) (U := U.calling g mk a) (Vm.Alike.refl U.vm) qK, qD, qX.same rfl rfl⟩
set_option maxHeartbeats 1000000 in
theorem z_met {G : z_G} {d : Nat} {M : z_M} {avs : List Value} {S : z_Shp} {v : z_Dat} {r : Option Value} {k' : z_C} (hcl : z_cl S) (hy : plainName M.1.cls = true) (hav : avs.all z_isv = true) (hlen : (z_fl avs).length ≤ M.2.2.1)
    (hR : z_R G d M (0, z_ent M.2.2.1 avs, [], S, v) k') (hre : z_re M k' r) (l : Launch) (hlt : l.stackTraces = false) (D : va_G) (ty : Nat → ClassId) (ad : Nat → Nat) (sz : Nat) :
    Met l M.1 (z_wm M) (z_rm d (z_c k'.2.2.2.1 - z_c S) (z_s k'.2.2.2.1 - z_s S)) (z_Pc G D ty ad S v avs sz) (z_Qc D ty ad (va_A (z_ws ty ad S v) sz) (z_n S) k'.2.2.2.1 k'.2.2.2.2 r) (z_c k'.2.2.2.1 - z_c S) (z_s k'.2.2.2.1 - z_s S) (va_A (z_ws ty ad S v) sz) := by
  refine Met.ofW (cc := M.2.1) (maxL := M.2.2.1) (ret := M.2.2.2) hy rfl ?_
  intro p e s m args below meth c s₁ B hml hv
  obtain ⟨rfl, hsz, hP, hK, hD0, hX⟩ := hv
  subst hsz
  have hD := hD0.self (sz := s.heap.size)
  obtain ⟨hc', h1, h2, h3, h4⟩ := hR hcl
  have hlocks : meth.locks = false := B.notSynchronized
  have hts : ∀ w ∈ z_TB, w.before (avs.map (z_mv ad)).toArray s = true := fun w hw => atoms_spec (ws := z_wm M) B.pre w (List.mem_cons_of_mem _ hw)
  have ok : z_ok G d M p (headSpec (z_wm M) (z_rm d (z_c k'.2.2.2.1 - z_c S) (z_s k'.2.2.2.1 - z_s S))).room s m (avs.map (z_mv ad)).toArray meth c D ty (va_A (z_ws ty ad S v) s.heap.size) ad :=
    ⟨B.exec, B.bytes, hml, B.returns, findClass_of_methodNamed B.named, hts, hlocks, (name_of_methodNamed B.named B.method).1, hK, fun q h => Or.inr h, ⟨Nat.le_refl _, Nat.le_refl _⟩, hX⟩
  have hl := lv_entry (avs.map (z_mv ad)) (n := M.2.2.1) (by rw [z_fl_len ad avs hav]; exact hlen)
  rw [lg_entry_eq]
  generalize (lg_sl (avs.map (z_mv ad)) ++ List.replicate (M.2.2.1 - (lg_sl (avs.map (z_mv ad))).length) Slot.unset).toArray = arr0 at hl ⊢
  have K := h4 p l e _ s m _ below meth c D ty _ ad (z_c S) (z_s S) (MQ below (z_Qc D ty ad (va_A (z_ws ty ad S v) s.heap.size) (z_n S) k'.2.2.2.1 k'.2.2.2.2 r) (avs.map (z_mv ad)).toArray s (z_c k'.2.2.2.1 - z_c S) (z_s k'.2.2.2.1 - z_s S) (va_A (z_ws ty ad S v) s.heap.size)) ok hlt (Nat.le_refl _) (Nat.le_refl _) (Nat.le_refl _) (Nat.le_refl _) ?_
  · have K2 := K s.heap [] arr0 hP hD va_S.rf (z_entry hav hlen hl)
    rw [Nat.sub_self, Nat.sub_self] at K2
    exact K2
  · intro ad' hg H locs arr hP1 hD1 hS1 hl1
    obtain ⟨pc, ls, st, S', v'⟩ := k'
    have hq : ∀ t : State, t.heap = H → s.WarmedH t.vm → z_B D ty (va_A (z_ws ty ad S v) s.heap.size) S' v' ad' t := fun t ht hW => ⟨by rw [ht]; exact hP1, va_K.moved hW.alike hK, hD1⟩
    cases r with
    | none =>
      obtain ⟨r1, r2, r3⟩ := hre
      have r2 : st = [] := r2
      subst r2
      exact W.vret B.exec B.bytes (B.returns.trans r3) (fun t ht hW => ⟨⟨ad', rfl, hg, hq t ht hW⟩, hS1.F ht⟩) hS1.2.2 r1
    | some w =>
      cases w with
      | int x =>
        obtain ⟨r1, r2, t, r3, r4⟩ := hre
        have r2 : st = [.int x] := r2
        subst r2
        exact W.zret B.exec B.bytes (B.returns.trans r3) r4 (fun t ht hW => ⟨⟨x, ad', rfl, ⟨rfl, hg⟩, hq t ht hW⟩, hS1.F ht⟩) hS1.2.2 r1
      | long x =>
        obtain ⟨r1, r2, r3⟩ := hre
        have r2 : st = [.long x] := r2
        subst r2
        exact W.lret B.exec B.bytes (B.returns.trans r3) (fun t ht hW => ⟨⟨x, ad', rfl, ⟨rfl, hg⟩, hq t ht hW⟩, hS1.F ht⟩) hS1.2.2 r1
      | ref a =>
        obtain ⟨r1, r2, C, r3⟩ := hre
        have r2 : st = [.ref a] := r2
        subst r2
        exact W.aret B.exec B.bytes (B.returns.trans r3) (Or.inl ⟨C, rfl⟩) (Or.inr ⟨_, rfl⟩) (fun t ht hW => ⟨⟨ad', ad' a, rfl, hg, rfl, hq t ht hW⟩, hS1.F ht⟩) hS1.2.2 r1
      | float _ => exact hre.elim
      | double _ => exact hre.elim
      | null => exact hre.elim
      | retAddr _ => exact hre.elim
/-- every reference there leads to a cell or outside -/
def z_okr (S : z_Shp) : List Value → Prop
  | [] => True
  | .ref b :: r => (z_k S b ≠ 0 ∨ z_X ≤ b) ∧ z_okr S r
  | _ :: r => z_okr S r
theorem z_okr_in {S : z_Shp} (hc : z_cl S) : ∀ (ls : List Value), z_okr S ls → ∀ b, Value.ref b ∈ ls → b < z_n S ∨ z_X ≤ b
  | [], _, b, h => by cases h
  | .ref a :: r, ⟨h1, h2⟩, b, h => by
    rcases List.mem_cons.mp h with e | h
    · cases e
      rcases h1 with h1 | h1
      · refine Or.inl ?_
        rcases Nat.lt_or_ge a (z_n S) with q | q
        · exact q
        · exact absurd (hc.1 a q) h1
      · exact Or.inr h1
    · exact z_okr_in hc r h2 b h
  | .int _ :: r, h2, b, h => by
    rcases List.mem_cons.mp h with e | h
    · cases e
    · exact z_okr_in hc r h2 b h
  | .long _ :: r, h2, b, h => by
    rcases List.mem_cons.mp h with e | h
    · cases e
    · exact z_okr_in hc r h2 b h
  | .float _ :: r, h2, b, h => by
    rcases List.mem_cons.mp h with e | h
    · cases e
    · exact z_okr_in hc r h2 b h
  | .double _ :: r, h2, b, h => by
    rcases List.mem_cons.mp h with e | h
    · cases e
    · exact z_okr_in hc r h2 b h
  | .null :: r, h2, b, h => by
    rcases List.mem_cons.mp h with e | h
    · cases e
    · exact z_okr_in hc r h2 b h
  | .retAddr _ :: r, h2, b, h => by
    rcases List.mem_cons.mp h with e | h
    · cases e
    · exact z_okr_in hc r h2 b h
theorem z_k0 {S : z_Shp} {a k : Nat} (h : z_k S a = k + 1) : z_k S a ≠ 0 := by rw [h]; exact Nat.succ_ne_zero k
/-- behind a call: the world goes on -/
theorem z_back {G : z_G} {d : Nat} {M : z_M} {p : Program} {l : Launch} {e : Env} {R : Room} {s : State} {m : MethodId} {args : Array Value} {below : List Frame} {meth : Method} {c : Code} {D : va_G} {ty : Nat → ClassId} {A : Nat → Prop} {ad : Nat → Nat} {c0 s0 : Nat} {Q : State → Prop}
    {pc : Nat} {ls st : List Value} {S S' : z_Shp} {v v' : z_Dat} {r : Option Value} {H : Heap} {locs : List Loc} {arr : Array Slot} {st0 : List Value} {a : Array Value}
    (ok : z_ok G d M p R s m args meth c D ty A ad) (hcl : z_cl S) (hrf : ∀ b, Value.ref b ∈ ls ++ st → b < z_n S ∨ z_X ≤ b) (hc1 : c0 ≤ z_c S) (hs1 : s0 ≤ z_s S) (hc2 : z_c S ≤ z_c S') (hs2 : z_s S ≤ z_s S')
    (hP : va_P D z_CL (z_ws ty ad S v) H) (hD : va_D A (z_ws ty ad S v)) (hS : va_S A s.heap H locs) (hl : z_lv ad M.2.2.1 ls arr) (hr0 : ∀ k', r = some k' → z_isv k' = true)
    (hrun : va_Run p l e R s m args below meth c H locs (z_c S - c0) (z_s S - s0) (z_c S' - z_c S) (z_s S' - z_s S) (F0 m pc arr st0) (st.map (z_mv ad)) (z_Qc D ty ad (va_A (z_ws ty ad S v) H.size) (z_n S) S' v' r a) (va_A (z_ws ty ad S v) H.size))
    (K : ∀ ad', z_ag (z_n S) ad ad' → z_at p l e R s m args below meth c D ty A c0 s0 Q M.2.2.1 ad' (pc + 3, ls, r.toList ++ st, S', v')) : W p l e R s m args below meth c H locs (z_c S - c0) (z_s S - s0) Q (F0 m pc arr st0) := by
  have hFc : ∀ q, va_A (z_ws ty ad S v) H.size q → A q := fun q hq => by
    rcases hq with ⟨k, e1, hk⟩ | h
    · exact hD.2 k _ hk
    · exact ok.2.2.2.2.2.2.2.2.2.1 q (Nat.le_trans hS.1 h)
  have hmap : ∀ ad', z_ag (z_n S) ad ad' → st.map (z_mv ad') = st.map (z_mv ad) := fun ad' hg => by
    apply List.map_congr_left
    intro w hw
    cases w with
    | ref b => exact congrArg Value.ref (hg b (hrf b (List.mem_append_right _ hw)))
    | _ => rfl
  have hlv : ∀ ad', z_ag (z_n S) ad ad' → z_lv ad' M.2.2.1 ls arr := fun ad' hg => by
    refine ⟨hl.1, hl.2.1, fun q hq => ?_⟩
    obtain ⟨w, hw, hn, e1⟩ := z_pr_of hq
    obtain ⟨j, y⟩ := q
    subst e1
    have h2 := hl.at hw hn
    have e2 : z_mv ad' w = z_mv ad w := by
      cases w with
      | ref b => exact congrArg Value.ref (hg b (hrf b (List.mem_append_left _ (List.mem_of_getElem? hw))))
      | _ => rfl
    show arr[j]? = some (.val (z_mv ad' w))
    rw [e2]
    exact h2
  have fin : ∀ (ad' : Nat → Nat) (t : State) (H1 : Heap) (locs1 : List Loc), z_ag (z_n S) ad ad' → t.heap = H1 → z_B D ty (va_A (z_ws ty ad S v) H.size) S' v' ad' t → va_S A s.heap H1 locs1 →
      W p l e R s m args below meth c H1 locs1 (z_c S - c0 + (z_c S' - z_c S)) (z_s S - s0 + (z_s S' - z_s S)) Q (F0 m (pc + 3) arr ((r.toList ++ st).map (z_mv ad'))) := by
    intro ad' t H1 locs1 hg ht hB hS1
    have e1 : z_c S - c0 + (z_c S' - z_c S) = z_c S' - c0 := by omega
    have e2 : z_s S - s0 + (z_s S' - z_s S) = z_s S' - s0 := by omega
    rw [e1, e2]
    exact K ad' hg H1 locs1 arr (by rw [← ht]; exact hB.1) (hB.2.2.weaken (fun _ q _ hq => hFc _ hq)) hS1 (hlv ad' hg)
  cases r with
  | none =>
    refine va_callv (a := a) hrun hS (fun q _ h => hFc q h) hFc (fun u t H1 locs1 ht hvm hw hB hz1 hk1 hS1 => ?_)
    have := fin u t H1 locs1 hw ht hB hS1
    simp only [Option.toList, List.nil_append] at this
    rw [hmap u hw] at this
    exact this
  | some w =>
    cases w with
    | int x =>
      refine va_calli (a := a) hrun hS (fun q _ h => hFc q h) hFc (fun y u t H1 locs1 ht hvm hw hB hz1 hk1 hS1 => ?_)
      have := fin u t H1 locs1 hw.2 ht hB hS1
      simp only [Option.toList, List.cons_append, List.nil_append, List.map_cons] at this
      rw [hmap u hw.2] at this
      rw [hw.1]
      exact this
    | long x =>
      refine va_calll (a := a) hrun hS (fun q _ h => hFc q h) hFc (fun y u t H1 locs1 ht hvm hw hB hz1 hk1 hS1 => ?_)
      have := fin u t H1 locs1 hw.2 ht hB hS1
      simp only [Option.toList, List.cons_append, List.nil_append, List.map_cons] at this
      rw [hmap u hw.2] at this
      rw [hw.1]
      exact this
    | ref b =>
      refine va_callr (a := a) hrun hS (fun q _ h => hFc q h) hFc (fun u a1 t H1 locs1 ht hvm hw hB hz1 hk1 hS1 => ?_)
      have := fin u t H1 locs1 hw ht hB.2 hS1
      simp only [Option.toList, List.cons_append, List.nil_append, List.map_cons] at this
      rw [hmap u hw] at this
      rw [hB.1]
      exact this
    | float _ => exact absurd (hr0 _ rfl) (by simp [z_isv])
    | double _ => exact absurd (hr0 _ rfl) (by simp [z_isv])
    | null => exact absurd (hr0 _ rfl) (by simp [z_isv])
    | retAddr _ => exact absurd (hr0 _ rfl) (by simp [z_isv])
theorem z_wmG {M : z_M} (h : z_mw M) : GoodIn z_TB (z_wm M) := fun w hw => by
  rcases List.mem_cons.mp hw with e | hw
  · subst e; exact z_TBg _ h.1
  · exact z_TBg _ hw
theorem z_catm (ad : Nat → Nat) (st : List Value) : ((st.map (z_mv ad)).map fun w => w.category) = st.map fun w => w.category := by
  rw [List.map_map]
  apply List.map_congr_left
  intro w _
  exact z_mv_cat ad w
theorem z_rv (ad : Nat → Nat) (avs : List Value) (b : Nat) (st : List Value) : (avs.reverse ++ .ref b :: st).map (z_mv ad) = (avs.map (z_mv ad)).reverse ++ .ref (ad b) :: st.map (z_mv ad) := by
  simp [z_mv]
section ZC
variable {G : z_G} {d : Nat} {M M' : z_M} {pc idx n : Nat} {ls st avs : List Value} {S : z_Shp} {v : z_Dat} {Q : Option Value → z_Shp → z_Dat → Prop}
theorem z_rv0 {M : z_M} {k : z_C} {r : Option Value} (h : z_re M k r) : ∀ k', r = some k' → z_isv k' = true := by
  intro w e
  subst e
  cases w <;> first | rfl | exact h.elim
set_option maxHeartbeats 1000000 in
theorem zj_callV {b ci : Nat} (hd : decode M.2.1 pc = .ok (.invokevirtual idx, 3)) (hm : z_mw M') (hw : Cond.methodLink M.1.cls idx M'.1 ∈ z_TB) (hi : Cond.instanceMethod M'.1 ∈ z_TB) (hs : Cond.selects M'.1.cls M'.1 M'.1 ∈ z_TB) (hc : ci < 12) (hk : z_k S b = ci + 1) (hcn : M'.1.cls = z_cn ci) (hn : (parseMethodDescriptor M'.1.desc).map (fun q => q.parameters.length) = some avs.length) (hL : M'.2.2.1 ≤ 44) (hav : (.ref b :: avs).all z_isv = true) (hlen : (z_fl (.ref b :: avs)).length ≤ M'.2.2.1) (hst : (st.map fun w => w.category).sum ≤ 8) (ho1 : z_okr S ls) (ho2 : z_okr S st)
    (hj : z_J G d M' (0, z_ent M'.2.2.1 (.ref b :: avs), [], S, v) (fun r S1 v1 => z_J G (d + 1) M (pc + 3, ls, r.toList ++ st, S1, v1) Q)) : z_J G (d + 1) M (pc, ls, avs.reverse ++ .ref b :: st, S, v) Q := by
  obtain ⟨r, k', hq, hR, hre⟩ := hj
  refine z_J.go ?_ hq
  intro hcl
  obtain ⟨a1, a2, a3, a4, -⟩ := hR hcl
  refine ⟨a1, a2, a3, a4, ?_⟩
  intro p l e R s m args below meth c D ty A ad c0 s0 Q ok hlt h1 h2 h3 h4 K H locs arr hP hD hS hl
  have okc := ok
  obtain ⟨hx, hb, hml, hr, hown, hts, hlocks, hnm, hK, hA, hRm, hX⟩ := ok
  have h1 : c0 ≤ z_c S := h1
  have h2 : s0 ≤ z_s S := h2
  have hM := z_met hcl hm.2.2.1 hav hlen hR hre l hlt D ty ad H.size
  refine z_back (a := ((.ref b :: avs).map (z_mv ad)).toArray) okc hcl (fun q hq => (List.mem_append.mp hq).elim (z_okr_in hcl ls ho1 q) (z_okr_in hcl st ho2 q)) h1 h2 a3 a4 hP hD hS hl (z_rv0 hre) ?_ K
  have hpar : ∀ sig, parseMethodDescriptor M'.1.desc = some sig → avs.length = sig.parameters.length := fun sig h => by
    rw [h] at hn
    exact (Option.some.inj hn).symm
  have hfr : d + 1 ≤ R.frames ∧ 8 + (M'.2.2.1 + 11) + 64 * d ≤ R.locals := ⟨hRm.1, by have := hRm.2; omega⟩
  have hFc : ∀ q, va_A (z_ws ty ad S v) H.size q → A q := fun q hq => by
    rcases hq with ⟨k, e1, hk⟩ | h
    · exact hD.2 k _ hk
    · exact hA q (Nat.le_trans hS.1 h)
  have hpre : ∀ U : State, U.heap = H → s.WarmedH U.vm → z_Pc G D ty ad S v (.ref b :: avs) H.size ((.ref b :: avs).map (z_mv ad)).toArray U := fun U hU hW => ⟨rfl, by rw [hU], by rw [hU]; exact hP, va_K.moved hW.alike hK, hD.weaken (fun _ _ _ _ => trivial), hX.to hS hU hW hFc⟩
  have hcb : z_c S - c0 + (z_c k'.2.2.2.1 - z_c S) ≤ R.cells ∧ z_s S - s0 + (z_s k'.2.2.2.1 - z_s S) ≤ R.slots := by
    have a3 : z_c S ≤ z_c k'.2.2.2.1 := a3
    have a4 : z_s S ≤ z_s k'.2.2.2.1 := a4
    have h3 : z_c k'.2.2.2.1 - c0 ≤ R.cells := h3
    have h4 : z_s k'.2.2.2.1 - s0 ≤ R.slots := h4
    constructor <;> omega
  exact va_runV (C := M'.1.cls) (As := avs.map (z_mv ad)) (rest := st.map (z_mv ad)) (b := ad b) ⟨hx, hb, hml, hown, hts⟩ hM ⟨⟨rfl, rfl, hfr.1, hfr.2, pay_in hts (z_wmG hm), List.mem_cons_self, hts _ hm.1, hts _ hm.2.1, ⟨hm.2.2.2.1, hm.2.2.2.2⟩, hpar, hts _ hw⟩, hts _ hi, hts _ hs⟩ ⟨z_blind _ _ _ _ _ _ _ _, by rw [hcn]; exact (va_recv hK hP (z_CLg hc) (z_wl_get (z_lt hcl hk) |>.trans (by rw [z_E_o hk hc]))), hpre⟩ rfl (by simp) hl.1 (z_rv ad avs b st) (lv_room (by rw [z_catm]; exact hst)) hd hcb
set_option maxHeartbeats 1000000 in
theorem zj_callVN {b ci : Nat} (hd : decode M.2.1 pc = .ok (.invokevirtual idx, 3)) (hm : z_mw M') (hw : (idx, M'.1) ∈ z_nw) (hMo : M.1.cls = RX10) (hi : Cond.instanceMethod M'.1 ∈ z_TB) (hs : Cond.selects M'.1.cls M'.1 M'.1 ∈ z_TB) (hc : ci < 12) (hk : z_k S b = ci + 1) (hcn : M'.1.cls = z_cn ci) (hn : (parseMethodDescriptor M'.1.desc).map (fun q => q.parameters.length) = some avs.length) (hL : M'.2.2.1 ≤ 44) (hav : (.ref b :: avs).all z_isv = true) (hlen : (z_fl (.ref b :: avs)).length ≤ M'.2.2.1) (hst : (st.map fun w => w.category).sum ≤ 8) (ho1 : z_okr S ls) (ho2 : z_okr S st)
    (hj : z_J G d M' (0, z_ent M'.2.2.1 (.ref b :: avs), [], S, v) (fun r S1 v1 => z_J G (d + 1) M (pc + 3, ls, r.toList ++ st, S1, v1) Q)) : z_J G (d + 1) M (pc, ls, avs.reverse ++ .ref b :: st, S, v) Q := by
  obtain ⟨r, k', hq, hR, hre⟩ := hj
  refine z_J.go ?_ hq
  intro hcl
  obtain ⟨a1, a2, a3, a4, -⟩ := hR hcl
  refine ⟨a1, a2, a3, a4, ?_⟩
  intro p l e R s m args below meth c D ty A ad c0 s0 Q ok hlt h1 h2 h3 h4 K H locs arr hP hD hS hl
  have okc := ok
  obtain ⟨hx, hb, hml, hr, hown, hts, hlocks, hnm, hK, hA, hRm, hX⟩ := ok
  have h1 : c0 ≤ z_c S := h1
  have h2 : s0 ≤ z_s S := h2
  have hM := z_met hcl hm.2.2.1 hav hlen hR hre l hlt D ty ad H.size
  refine z_back (a := ((.ref b :: avs).map (z_mv ad)).toArray) okc hcl (fun q hq => (List.mem_append.mp hq).elim (z_okr_in hcl ls ho1 q) (z_okr_in hcl st ho2 q)) h1 h2 a3 a4 hP hD hS hl (z_rv0 hre) ?_ K
  have hpar : ∀ sig, parseMethodDescriptor M'.1.desc = some sig → avs.length = sig.parameters.length := fun sig h => by
    rw [h] at hn
    exact (Option.some.inj hn).symm
  have hfr : d + 1 ≤ R.frames ∧ 8 + (M'.2.2.1 + 11) + 64 * d ≤ R.locals := ⟨hRm.1, by have := hRm.2; omega⟩
  have hFc : ∀ q, va_A (z_ws ty ad S v) H.size q → A q := fun q hq => by
    rcases hq with ⟨k, e1, hk⟩ | h
    · exact hD.2 k _ hk
    · exact hA q (Nat.le_trans hS.1 h)
  have hpre : ∀ U : State, U.heap = H → s.WarmedH U.vm → z_Pc G D ty ad S v (.ref b :: avs) H.size ((.ref b :: avs).map (z_mv ad)).toArray U := fun U hU hW => ⟨rfl, by rw [hU], by rw [hU]; exact hP, va_K.moved hW.alike hK, hD.weaken (fun _ _ _ _ => trivial), hX.to hS hU hW hFc⟩
  have hcb : z_c S - c0 + (z_c k'.2.2.2.1 - z_c S) ≤ R.cells ∧ z_s S - s0 + (z_s k'.2.2.2.1 - z_s S) ≤ R.slots := by
    have a3 : z_c S ≤ z_c k'.2.2.2.1 := a3
    have a4 : z_s S ≤ z_s k'.2.2.2.1 := a4
    have h3 : z_c k'.2.2.2.1 - c0 ≤ R.cells := h3
    have h4 : z_s k'.2.2.2.1 - s0 ≤ R.slots := h4
    constructor <;> omega
  exact va_runVN (host := "WovenKeeper") (C := M'.1.cls) (As := avs.map (z_mv ad)) (rest := st.map (z_mv ad)) (b := ad b) ⟨hx, hb, hml, hown, hts⟩ hM ⟨⟨⟨rfl, rfl, hfr.1, hfr.2, pay_in hts (z_wmG hm), List.mem_cons_self⟩, hts _ hm.1, hts _ hm.2.1, ⟨hm.2.2.2.1, hm.2.2.2.2⟩, hpar, hMo ▸ va_Nw.use rfl (hX.2.2.2.2.2.2.1 _ hw)⟩, hts _ hi, hts _ hs⟩ ⟨z_blind _ _ _ _ _ _ _ _, by rw [hcn]; exact (va_recv hK hP (z_CLg hc) (z_wl_get (z_lt hcl hk) |>.trans (by rw [z_E_o hk hc]))), hpre⟩ rfl (by simp) hl.1 (z_rv ad avs b st) (lv_room (by rw [z_catm]; exact hst)) hd hcb
set_option maxHeartbeats 1000000 in
theorem zj_callS  (hd : decode M.2.1 pc = .ok (.invokestatic idx, 3)) (hm : z_mw M') (hw : Cond.methodLink M.1.cls idx M'.1 ∈ z_TB) (hi : Cond.static M'.1 ∈ z_TB) (hn : (parseMethodDescriptor M'.1.desc).map (fun q => q.parameters.length) = some avs.length) (hL : M'.2.2.1 ≤ 44) (hav : (avs).all z_isv = true) (hlen : (z_fl (avs)).length ≤ M'.2.2.1) (hst : (st.map fun w => w.category).sum ≤ 8) (ho1 : z_okr S ls) (ho2 : z_okr S st)
    (hj : z_J G d M' (0, z_ent M'.2.2.1 (avs), [], S, v) (fun r S1 v1 => z_J G (d + 1) M (pc + 3, ls, r.toList ++ st, S1, v1) Q)) : z_J G (d + 1) M (pc, ls, avs.reverse ++ st, S, v) Q := by
  obtain ⟨r, k', hq, hR, hre⟩ := hj
  refine z_J.go ?_ hq
  intro hcl
  obtain ⟨a1, a2, a3, a4, -⟩ := hR hcl
  refine ⟨a1, a2, a3, a4, ?_⟩
  intro p l e R s m args below meth c D ty A ad c0 s0 Q ok hlt h1 h2 h3 h4 K H locs arr hP hD hS hl
  have okc := ok
  obtain ⟨hx, hb, hml, hr, hown, hts, hlocks, hnm, hK, hA, hRm, hX⟩ := ok
  have h1 : c0 ≤ z_c S := h1
  have h2 : s0 ≤ z_s S := h2
  have hM := z_met hcl hm.2.2.1 hav hlen hR hre l hlt D ty ad H.size
  refine z_back (a := ((avs).map (z_mv ad)).toArray) okc hcl (fun q hq => (List.mem_append.mp hq).elim (z_okr_in hcl ls ho1 q) (z_okr_in hcl st ho2 q)) h1 h2 a3 a4 hP hD hS hl (z_rv0 hre) ?_ K
  have hpar : ∀ sig, parseMethodDescriptor M'.1.desc = some sig → avs.length = sig.parameters.length := fun sig h => by
    rw [h] at hn
    exact (Option.some.inj hn).symm
  have hfr : d + 1 ≤ R.frames ∧ 8 + (M'.2.2.1 + 11) + 64 * d ≤ R.locals := ⟨hRm.1, by have := hRm.2; omega⟩
  have hFc : ∀ q, va_A (z_ws ty ad S v) H.size q → A q := fun q hq => by
    rcases hq with ⟨k, e1, hk⟩ | h
    · exact hD.2 k _ hk
    · exact hA q (Nat.le_trans hS.1 h)
  have hpre : ∀ U : State, U.heap = H → s.WarmedH U.vm → z_Pc G D ty ad S v (avs) H.size ((avs).map (z_mv ad)).toArray U := fun U hU hW => ⟨rfl, by rw [hU], by rw [hU]; exact hP, va_K.moved hW.alike hK, hD.weaken (fun _ _ _ _ => trivial), hX.to hS hU hW hFc⟩
  have hcb : z_c S - c0 + (z_c k'.2.2.2.1 - z_c S) ≤ R.cells ∧ z_s S - s0 + (z_s k'.2.2.2.1 - z_s S) ≤ R.slots := by
    have a3 : z_c S ≤ z_c k'.2.2.2.1 := a3
    have a4 : z_s S ≤ z_s k'.2.2.2.1 := a4
    have h3 : z_c k'.2.2.2.1 - c0 ≤ R.cells := h3
    have h4 : z_s k'.2.2.2.1 - s0 ≤ R.slots := h4
    constructor <;> omega
  exact va_runS (As := avs.map (z_mv ad)) (rest := st.map (z_mv ad)) ⟨hx, hb, hml, hown, hts⟩ hM ⟨⟨rfl, rfl, hfr.1, hfr.2, pay_in hts (z_wmG hm), List.mem_cons_self, hts _ hm.1, hts _ hm.2.1, ⟨hm.2.2.2.1, hm.2.2.2.2⟩, hpar, hts _ hw⟩, hts _ hi⟩ ⟨z_blind _ _ _ _ _ _ _ _, hpre⟩ rfl (by simp) hl.1 (by simp) (lv_room (by rw [z_catm]; exact hst)) hd hcb
set_option maxHeartbeats 1000000 in
theorem zj_callI {b : Nat} (hd : decode M.2.1 pc = .ok (.invokespecial idx, 3)) (hm : z_mw M') (hw : Cond.methodLink M.1.cls idx M'.1 ∈ z_TB) (hi : Cond.instanceMethod M'.1 ∈ z_TB) (hin : M'.1.name = "<init>") (hret : M'.2.2.2 = none) (hn : (parseMethodDescriptor M'.1.desc).map (fun q => q.parameters.length) = some avs.length) (hL : M'.2.2.1 ≤ 44) (hav : (.ref b :: avs).all z_isv = true) (hlen : (z_fl (.ref b :: avs)).length ≤ M'.2.2.1) (hst : (st.map fun w => w.category).sum ≤ 8) (ho1 : z_okr S ls) (ho2 : z_okr S st)
    (hj : z_J G d M' (0, z_ent M'.2.2.1 (.ref b :: avs), [], S, v) (fun r S1 v1 => z_J G (d + 1) M (pc + 3, ls, r.toList ++ st, S1, v1) Q)) : z_J G (d + 1) M (pc, ls, avs.reverse ++ .ref b :: st, S, v) Q := by
  obtain ⟨r, k', hq, hR, hre⟩ := hj
  refine z_J.go ?_ hq
  intro hcl
  obtain ⟨a1, a2, a3, a4, -⟩ := hR hcl
  refine ⟨a1, a2, a3, a4, ?_⟩
  intro p l e R s m args below meth c D ty A ad c0 s0 Q ok hlt h1 h2 h3 h4 K H locs arr hP hD hS hl
  have okc := ok
  obtain ⟨hx, hb, hml, hr, hown, hts, hlocks, hnm, hK, hA, hRm, hX⟩ := ok
  have h1 : c0 ≤ z_c S := h1
  have h2 : s0 ≤ z_s S := h2
  have hM := z_met hcl hm.2.2.1 hav hlen hR hre l hlt D ty ad H.size
  refine z_back (a := ((.ref b :: avs).map (z_mv ad)).toArray) okc hcl (fun q hq => (List.mem_append.mp hq).elim (z_okr_in hcl ls ho1 q) (z_okr_in hcl st ho2 q)) h1 h2 a3 a4 hP hD hS hl (z_rv0 hre) ?_ K
  have hpar : ∀ sig, parseMethodDescriptor M'.1.desc = some sig → avs.length = sig.parameters.length := fun sig h => by
    rw [h] at hn
    exact (Option.some.inj hn).symm
  have hfr : d + 1 ≤ R.frames ∧ 8 + (M'.2.2.1 + 11) + 64 * d ≤ R.locals := ⟨hRm.1, by have := hRm.2; omega⟩
  have hFc : ∀ q, va_A (z_ws ty ad S v) H.size q → A q := fun q hq => by
    rcases hq with ⟨k, e1, hk⟩ | h
    · exact hD.2 k _ hk
    · exact hA q (Nat.le_trans hS.1 h)
  have hpre : ∀ U : State, U.heap = H → s.WarmedH U.vm → z_Pc G D ty ad S v (.ref b :: avs) H.size ((.ref b :: avs).map (z_mv ad)).toArray U := fun U hU hW => ⟨rfl, by rw [hU], by rw [hU]; exact hP, va_K.moved hW.alike hK, hD.weaken (fun _ _ _ _ => trivial), hX.to hS hU hW hFc⟩
  have hcb : z_c S - c0 + (z_c k'.2.2.2.1 - z_c S) ≤ R.cells ∧ z_s S - s0 + (z_s k'.2.2.2.1 - z_s S) ≤ R.slots := by
    have a3 : z_c S ≤ z_c k'.2.2.2.1 := a3
    have a4 : z_s S ≤ z_s k'.2.2.2.1 := a4
    have h3 : z_c k'.2.2.2.1 - c0 ≤ R.cells := h3
    have h4 : z_s k'.2.2.2.1 - s0 ≤ R.slots := h4
    constructor <;> omega
  exact va_runI (As := avs.map (z_mv ad)) (rest := st.map (z_mv ad)) (b := ad b) ⟨hx, hb, hml, hown, hts⟩ hM ⟨⟨rfl, rfl, hfr.1, hfr.2, pay_in hts (z_wmG hm), hret ▸ List.mem_cons_self, hret ▸ hts _ hm.1, hts _ hm.2.1, ⟨hm.2.2.2.1, hm.2.2.2.2⟩, hpar, hts _ hw⟩, hin, hts _ hi⟩ ⟨z_blind _ _ _ _ _ _ _ _, hpre⟩ rfl (by simp) hl.1 (z_rv ad avs b st) (lv_room (by rw [z_catm]; exact hst)) hd hcb
set_option maxHeartbeats 1000000 in
theorem zj_callIN {b : Nat} (hd : decode M.2.1 pc = .ok (.invokespecial idx, 3)) (hm : z_mw M') (hw : (idx, M'.1) ∈ z_nw) (hMo : M.1.cls = RX10) (hi : Cond.instanceMethod M'.1 ∈ z_TB) (hin : M'.1.name = "<init>") (hret : M'.2.2.2 = none) (hn : (parseMethodDescriptor M'.1.desc).map (fun q => q.parameters.length) = some avs.length) (hL : M'.2.2.1 ≤ 44) (hav : (.ref b :: avs).all z_isv = true) (hlen : (z_fl (.ref b :: avs)).length ≤ M'.2.2.1) (hst : (st.map fun w => w.category).sum ≤ 8) (ho1 : z_okr S ls) (ho2 : z_okr S st)
    (hj : z_J G d M' (0, z_ent M'.2.2.1 (.ref b :: avs), [], S, v) (fun r S1 v1 => z_J G (d + 1) M (pc + 3, ls, r.toList ++ st, S1, v1) Q)) : z_J G (d + 1) M (pc, ls, avs.reverse ++ .ref b :: st, S, v) Q := by
  obtain ⟨r, k', hq, hR, hre⟩ := hj
  refine z_J.go ?_ hq
  intro hcl
  obtain ⟨a1, a2, a3, a4, -⟩ := hR hcl
  refine ⟨a1, a2, a3, a4, ?_⟩
  intro p l e R s m args below meth c D ty A ad c0 s0 Q ok hlt h1 h2 h3 h4 K H locs arr hP hD hS hl
  have okc := ok
  obtain ⟨hx, hb, hml, hr, hown, hts, hlocks, hnm, hK, hA, hRm, hX⟩ := ok
  have h1 : c0 ≤ z_c S := h1
  have h2 : s0 ≤ z_s S := h2
  have hM := z_met hcl hm.2.2.1 hav hlen hR hre l hlt D ty ad H.size
  refine z_back (a := ((.ref b :: avs).map (z_mv ad)).toArray) okc hcl (fun q hq => (List.mem_append.mp hq).elim (z_okr_in hcl ls ho1 q) (z_okr_in hcl st ho2 q)) h1 h2 a3 a4 hP hD hS hl (z_rv0 hre) ?_ K
  have hpar : ∀ sig, parseMethodDescriptor M'.1.desc = some sig → avs.length = sig.parameters.length := fun sig h => by
    rw [h] at hn
    exact (Option.some.inj hn).symm
  have hfr : d + 1 ≤ R.frames ∧ 8 + (M'.2.2.1 + 11) + 64 * d ≤ R.locals := ⟨hRm.1, by have := hRm.2; omega⟩
  have hFc : ∀ q, va_A (z_ws ty ad S v) H.size q → A q := fun q hq => by
    rcases hq with ⟨k, e1, hk⟩ | h
    · exact hD.2 k _ hk
    · exact hA q (Nat.le_trans hS.1 h)
  have hpre : ∀ U : State, U.heap = H → s.WarmedH U.vm → z_Pc G D ty ad S v (.ref b :: avs) H.size ((.ref b :: avs).map (z_mv ad)).toArray U := fun U hU hW => ⟨rfl, by rw [hU], by rw [hU]; exact hP, va_K.moved hW.alike hK, hD.weaken (fun _ _ _ _ => trivial), hX.to hS hU hW hFc⟩
  have hcb : z_c S - c0 + (z_c k'.2.2.2.1 - z_c S) ≤ R.cells ∧ z_s S - s0 + (z_s k'.2.2.2.1 - z_s S) ≤ R.slots := by
    have a3 : z_c S ≤ z_c k'.2.2.2.1 := a3
    have a4 : z_s S ≤ z_s k'.2.2.2.1 := a4
    have h3 : z_c k'.2.2.2.1 - c0 ≤ R.cells := h3
    have h4 : z_s k'.2.2.2.1 - s0 ≤ R.slots := h4
    constructor <;> omega
  exact va_runIN (host := "WovenKeeper") (As := avs.map (z_mv ad)) (rest := st.map (z_mv ad)) (b := ad b) ⟨hx, hb, hml, hown, hts⟩ hM ⟨⟨⟨rfl, rfl, hfr.1, hfr.2, pay_in hts (z_wmG hm), hret ▸ List.mem_cons_self⟩, hret ▸ hts _ hm.1, hts _ hm.2.1, ⟨hm.2.2.2.1, hm.2.2.2.2⟩, hpar, hMo ▸ va_Nw.use rfl (hX.2.2.2.2.2.2.1 _ hw)⟩, hin, hts _ hi⟩ ⟨z_blind _ _ _ _ _ _ _ _, hpre⟩ rfl (by simp) hl.1 (z_rv ad avs b st) (lv_room (by rw [z_catm]; exact hst)) hd hcb
end ZC
