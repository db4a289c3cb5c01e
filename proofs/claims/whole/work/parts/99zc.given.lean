/-! WHAT THE STATEMENT GIVES OF THE START, as the world outside -/
abbrev l_fl : List Cond := flatC (Jvm.Cond.and given_1 narrow_1)
def l_tm (i : Nat) : Term := .string "WovenKeeper$Script" (z_sidx.getD i 0)
def l_WT : Term := .static "WovenKeeperModel" "WORDS" "[B"
theorem lq_s1 : (List.range 14).all (fun i => l_fl.contains (.exactly (l_tm i) "java/lang/String")) = true := by decide +kernel
theorem lq_s2 : (List.range 14).all (fun i => l_fl.contains (.eq (.field (l_tm i) "java/lang/String" "coder" "B") (.int 0))) = true := by decide +kernel
theorem lq_s3 : (List.range 14).all (fun i => l_fl.contains (.arrayOf (.field (l_tm i) "java/lang/String" "value" "[B") .byte)) = true := by decide +kernel
theorem lq_s4 : (List.range 14).all (fun i => l_fl.contains (.eq (.length (.field (l_tm i) "java/lang/String" "value" "[B")) (.int (Int32.ofNat (z_slen.getD i 0))))) = true := by decide +kernel
theorem lq_s5 : (List.range 14).all (fun i => (List.range (z_slen.getD i 0)).all (fun j => l_fl.contains (.eq (.elem (.field (l_tm i) "java/lang/String" "value" "[B") (.int (Int32.ofNat j))) (.int ((z_sbyt.getD i []).getD j 0))))) = true := by decide +kernel
def l_np : List Nat := [0, 190, 206, 223, 240, 258, 0, 0, 0, 0, 0, 0, 0, 0, 0, 0, 207, 224, 241, 259, 0, 0, 0, 0, 0, 0, 0, 0, 0, 0, 0, 225, 242, 260, 0, 0, 0, 0, 0, 0, 0, 0, 0, 0, 0, 0, 243, 261, 0, 0, 0, 0, 0, 0, 0, 0, 0, 0, 0, 0, 0, 262, 0, 0, 0, 0, 0, 0, 0, 0, 0, 0, 0, 0, 0, 0, 0, 0, 0, 0, 0, 0, 0, 0, 170, 182, 198, 215, 232, 250, 0, 85, 94, 104, 116, 129, 142, 157, 171, 183, 199, 216, 233, 251, 0, 0, 95, 105, 117, 130, 143, 158, 172, 184, 200, 217, 234, 252, 0, 0, 0, 106, 118, 131, 144, 159, 173, 185, 201, 218, 235, 253, 0, 0, 0, 0, 119, 132, 145, 160, 174, 186, 202, 219, 236, 254, 0, 0, 0, 0, 0, 133, 146, 161, 175, 187, 203, 220, 237, 255, 0, 0, 0, 0, 0, 0, 147, 162, 176, 188, 204, 221, 238, 256, 0, 0, 0, 0, 0, 0, 0, 163, 177, 189, 205, 222, 239, 257, 0, 0, 0, 0, 0, 0, 0, 0]
def l_rk (i : Nat) : Nat := if i < 6 then i + 8 else i - 6
theorem lq_s6 : (List.range 14).all (fun i => (List.range 14).all (fun j => decide (l_rk j ≤ l_rk i) || decide (l_fl[l_np.getD (14 * i + j) 0]? = some (.not (.eq (l_tm i) (l_tm j)))))) = true := by decide +kernel
theorem lq_s6_of {i j : Nat} (hi : i < 14) (hj : j < 14) (h : l_rk i < l_rk j) : Cond.not (.eq (l_tm i) (l_tm j)) ∈ l_fl := by
  have q := List.all_eq_true.mp (List.all_eq_true.mp lq_s6 i (List.mem_range.mpr hi)) j (List.mem_range.mpr hj)
  rw [Bool.or_eq_true] at q
  rcases q with q | q
  · have := of_decide_eq_true q
    omega
  · exact List.mem_of_getElem? (of_decide_eq_true q)
theorem lq_s7 : (List.range 14).all (fun i => decide (z_slen.getD i 0 < 2 ^ 31)) = true := by decide +kernel
theorem lq_s8 : (List.range 14).all (fun i => lw_tbl.contains (.stringRef "WovenKeeper$Script" (z_sidx.getD i 0) (z_stx.getD i ""))) = true := by decide +kernel
theorem lq_w1 : l_fl.contains (.arrayOf l_WT .byte) = true := by decide +kernel
theorem lq_w2 : l_fl.contains (.eq (.length l_WT) (.int (Int32.ofNat 43))) = true := by decide +kernel
theorem lq_w3 : (List.range 43).all (fun j => l_fl.contains (.eq (.elem l_WT (.int (Int32.ofNat j))) (.int (z_wd.getD j 0)))) = true := by decide +kernel
theorem lq_w4 : lw_tbl.contains (.laysStatic "WovenKeeperModel" "WORDS" "[B") = true := by decide +kernel
theorem lq_c1 : l_fl.contains (.eq (.static "java/lang/String" "COMPACT_STRINGS" "Z") (.int 1)) = true := by decide +kernel
theorem lq_c2 : lw_tbl.contains (.laysStatic "java/lang/String" "COMPACT_STRINGS" "Z") = true := by decide +kernel
theorem lq_c3 : lw_tbl.contains (.initialized "java/lang/String") = true := by decide +kernel
theorem lq_q1 : l_fl.contains (.isRef (.static "jdk/internal/util/Preconditions" "SIOOBE_FORMATTER" "Ljava/util/function/BiFunction;")) = true := by decide +kernel
theorem lq_q2 : lw_tbl.contains (.laysStatic "jdk/internal/util/Preconditions" "SIOOBE_FORMATTER" "Ljava/util/function/BiFunction;") = true := by decide +kernel
theorem lq_q3 : lw_tbl.contains (.initialized "jdk/internal/util/Preconditions") = true := by decide +kernel
theorem lq_t1 : l_fl.contains (.isRef (.static Bundle.tN "UNASSIGNED_STACK" Bundle.steD)) = true := by decide +kernel
theorem lq_t2 : lw_tbl.contains (.laysStatic Bundle.tN "UNASSIGNED_STACK" Bundle.steD) = true := by decide +kernel
theorem lq_t3 : l_fl.contains (.isRef (.static Bundle.tN "SUPPRESSED_SENTINEL" Bundle.listD)) = true := by decide +kernel
theorem lq_t4 : lw_tbl.contains (.laysStatic Bundle.tN "SUPPRESSED_SENTINEL" Bundle.listD) = true := by decide +kernel
theorem lq_t5 : lw_tbl.contains (.initialized Bundle.tN) = true := by decide +kernel
theorem lq_n1 : z_nw.all (fun q => lw_tbl.contains (.methodLinkNest RX10 q.1 q.2 "WovenKeeper") && (Cond.methodLinkNest RX10 q.1 q.2 "WovenKeeper").onTables) = true := by decide +kernel
theorem lq_n2 : (lw_tbl.contains (.castable "java/util/NoSuchElementException" "java/util/NoSuchElementException") && (Cond.castable "java/util/NoSuchElementException" "java/util/NoSuchElementException").onTables) = true := by decide +kernel
theorem lq_n3 : z_dc.all (fun y => lw_tbl.contains (.declares y) && (Cond.declares y).onTables) = true := by decide +kernel
theorem lq_a1 : lw_tbl.contains (.arrayOver (.object "WovenKeeper$Fabric")) = true := by decide +kernel
theorem lq_a2 : lw_tbl.contains (.arrayOver (.array .int)) = true := by decide +kernel
theorem l_AOA {args : Array Value} {s : State} (h : (Cond.arrayOver (.array .int)).before args s = true) : z_AOA s := by
  simp only [Cond.before, Cond.holds, Cond.value, beq_iff_eq] at h
  cases hc : s.vm.findClass (FieldType.array .int).toString with
  | none => simp [hc] at h
  | some comp =>
    simp only [hc, Option.bind_some, Option.bind_eq_some_iff, Option.map_eq_some_iff] at h
    obtain ⟨c, hi, k, hk, hb⟩ := h
    obtain ⟨hlt, hp, -⟩ := Array.findIdx?_eq_some_iff_getElem.mp hi
    have hkk : s.vm.classes[c] = k := (Array.getElem?_eq_some_iff.mp hk).2
    rw [hkk] at hp
    cases hkind : k.kind with
    | array component ty =>
      rw [hkind] at hb hp
      simp at hb hp
      exact ⟨c, k, comp, hb.2, hk, by rw [hkind, hp, hb.1], hc⟩
    | _ => rw [hkind] at hb; simp at hb
section GV
variable {args : Array Value} {s : State}
theorem l_all1 {P : Nat → Cond} {L : List Cond} {n : Nat} (hc : (List.range n).all (fun i => L.contains (P i)) = true) (h : ∀ w ∈ L, w.before args s = true) : ∀ i, i < n → (P i).before args s = true := fun i hi => h _ (List.contains_iff_mem.mp (List.all_eq_true.mp hc i (List.mem_range.mpr hi)))
theorem l_one {w : Cond} {L : List Cond} (hc : L.contains w = true) (h : ∀ w ∈ L, w.before args s = true) : w.before args s = true := h _ (List.contains_iff_mem.mp hc)
def l_ad (b tW : Nat) (aK aV : Nat → Nat) : Nat → Nat := fun a => if a = z_X + 60 then b else if a = z_X + 50 then tW else if z_X + 100 ≤ a then aV (a - (z_X + 100)) else aK (a - z_X)
theorem l_ad60 {b tW : Nat} {aK aV : Nat → Nat} : l_ad b tW aK aV (z_X + 60) = b := if_pos rfl
theorem l_ad50 {b tW : Nat} {aK aV : Nat → Nat} : l_ad b tW aK aV (z_X + 50) = tW := by
  unfold l_ad
  rw [if_neg (by omega), if_pos rfl]
theorem l_adK {b tW : Nat} {aK aV : Nat → Nat} {i : Nat} (h : i < 14) : l_ad b tW aK aV (z_X + i) = aK i := by
  unfold l_ad
  rw [if_neg (by omega), if_neg (by omega), if_neg (by omega), show z_X + i - z_X = i by omega]
theorem l_adV {b tW : Nat} {aK aV : Nat → Nat} {i : Nat} (h : i < 14) : l_ad b tW aK aV (z_X + 100 + i) = aV i := by
  unfold l_ad
  rw [if_neg (by omega), if_neg (by omega), if_pos (by omega), show z_X + 100 + i - (z_X + 100) = i by omega]
theorem l_XP {b L : Nat} {xs : Nat → Int32} (hL : L ≤ 3584) (hts : ∀ w ∈ lw_tbl, w.before args s = true) (hfl : ∀ w ∈ l_fl, w.before args s = true) (hX : va_X b L xs s s.heap) (hbl : b < s.heap.size) : ∃ ad : Nat → Nat, ad (z_X + 60) = b ∧ z_XP (L, xs) ad (fun q => s.heap.size ≤ q) s s.heap := by
  have hA : ∀ a : Nat, a < s.heap.size → ¬ (fun q => s.heap.size ≤ q) a := fun a ha => Nat.not_le.mpr ha
  obtain ⟨aK, aV, hS, hev⟩ := vk_Sof (args := args) (s := s) (N := 14) (tm := l_tm) (len := z_slen) (byt := z_sbyt) (A := fun q => s.heap.size ≤ q) (fun i hi => of_decide_eq_true (List.all_eq_true.mp lq_s7 i (List.mem_range.mpr hi))) (l_all1 lq_s1 hfl) (l_all1 lq_s2 hfl) (l_all1 lq_s3 hfl) (l_all1 lq_s4 hfl) (fun i hi => l_all1 (List.all_eq_true.mp lq_s5 i (List.mem_range.mpr hi)) hfl) (fun i j hi hj hij => by
    have hne : l_rk i ≠ l_rk j := by
      unfold l_rk
      split <;> split <;> omega
    rcases Nat.lt_or_ge (l_rk i) (l_rk j) with q | q
    · exact Or.inl (hfl _ (lq_s6_of hi hj q))
    · exact Or.inr (hfl _ (lq_s6_of hj hi (by omega)))) hA
  obtain ⟨tW, hW, hT⟩ := va_Tof (args := args) (s := s) (tm := l_WT) (ty := .byte) (N := 43) (f := fun j => .int (z_wd.getD j 0)) (A := fun q => s.heap.size ≤ q) (by decide) (l_one lq_w1 hfl) (va_eqt (l_one lq_w2 hfl)) (fun j hj => va_eqt (l_all1 lq_w3 hfl j hj)) hA
  refine ⟨l_ad b tW aK aV, l_ad60, ?_, ?_, ⟨fun i hi => ?_, fun i j hi hj e => ?_⟩, ?_, fun i hi => ?_, ?_, fun q hq => ?_, ?_, ?_, ?_, ?_, ?_, ?_, fun y hy => ?_⟩
  · rw [l_ad50]
    exact va_Zref (l_one lq_w4 hts) (hts _ (List.mem_filter.mp w0_X11).1) hW hA
  · rw [l_ad50]; exact hT
  · have q := hS.1 i hi
    show va_O _ (l_ad b tW aK aV (z_X + i)) _ _ _ ∧ va_OF _ _ _ _ (l_ad b tW aK aV (z_X + i)) _ _ _ ∧ va_OF _ _ _ (.ref (l_ad b tW aK aV (z_X + 100 + i))) (l_ad b tW aK aV (z_X + i)) _ _ _ ∧ va_T _ (l_ad b tW aK aV (z_X + 100 + i)) _ _ _ _ _
    rw [l_adK hi, l_adV hi]
    exact q
  · have e : l_ad b tW aK aV (z_X + i) = l_ad b tW aK aV (z_X + j) := e
    rw [l_adK hi, l_adK hj] at e
    exact hS.2 i j hi hj e
  · exact va_Zof (l_one lq_c2 hts) (l_one lq_c3 hts) (va_eqt (l_one lq_c1 hfl)) hA
  · rw [l_adK hi]
    exact vk_R.of (A := args) (l_all1 lq_s8 hts i hi) (hev i hi)
  · rw [l_ad60]
    obtain ⟨scr, h1, h2, h3, h4, h5⟩ := hX
    exact ⟨scr, h1, h2, h3, Nat.le_of_eq h4.symm, (by rw [h4]; first | done | rfl), h5, hA b hbl⟩
  · have c := List.all_eq_true.mp lq_n1 q hq
    rw [Bool.and_eq_true] at c
    exact va_Nw.of c.2 (l_one c.1 hts)
  · exact va_AO.of (l_one lq_a1 hts)
  · exact l_AOA (l_one lq_a2 hts)
  · exact va_Zqof (l_one lq_q2 hts) (l_one lq_q3 hts) (l_one lq_q1 hfl) hA
  · exact vx_Zqof (l_one lq_t2 hts) (l_one lq_t5 hts) (l_one lq_t1 hfl) hA
  · exact vx_Zqof (l_one lq_t4 hts) (l_one lq_t5 hts) (l_one lq_t3 hfl) hA
  · have c := lq_n2
    rw [Bool.and_eq_true] at c
    exact va_Nw.of c.2 (l_one c.1 hts)
  · have c := List.all_eq_true.mp lq_n3 y hy
    rw [Bool.and_eq_true] at c
    exact va_Nw.of c.2 (l_one c.1 hts)
theorem l_wb {ci : Nat} (h : ci < 12) : Cond.instantiable (z_cn ci) (z_nf ci) ∈ z_TB := by
  rcases (show ci = 0 ∨ ci = 1 ∨ ci = 2 ∨ ci = 3 ∨ ci = 4 ∨ ci = 5 ∨ ci = 6 ∨ ci = 7 ∨ ci = 8 ∨ ci = 9 ∨ ci = 10 ∨ ci = 11 by omega) with rfl | rfl | rfl | rfl | rfl | rfl | rfl | rfl | rfl | rfl | rfl | rfl
  · exact wb_X0
  · exact wb_X1
  · exact wb_X2
  · exact wb_X3
  · exact wb_X4
  · exact wb_X5
  · exact wb_X6
  · exact wb_X7
  · exact wb_X8
  · exact wb_X9
  · exact wb_X10
  · exact wb_X11
theorem l_arr {ty : FieldType} (h : (Cond.arrayClass ty).before args s = true) : ∃ c : ClassId, ArrOfT s c ty ∧ s.vm.findClass ("[" ++ ty.toString) = some c := by
  obtain ⟨c, k, comp, h1, h2, h3⟩ := Cond.arrayClass_spec h
  exact ⟨c, fun n z => ⟨fun k h => (by cases h), k, h2, comp, h3⟩, h1⟩
theorem l_K (hts : ∀ w ∈ lw_tbl, w.before args s = true) : ∃ (D : va_G) (ty : Nat → ClassId), va_K D z_CL (z_ty ty) s := by
  have htb : ∀ w ∈ z_TB, w.before args s = true := fun w hw => hts w (List.mem_filter.mp hw).1
  have h : ∀ ci : Nat, ∃ q : ClassId × (Nat → Nat), ci < 12 → u_Kn s (z_cn ci) (z_T ci) (z_nf ci) q.1 q.2 := fun ci => by
    by_cases hc : ci < 12
    · obtain ⟨cC, iS, hk⟩ := u_known htb (z_inT hc) (htb _ (l_wb hc))
      exact ⟨(cC, iS), fun _ => hk⟩
    · exact ⟨(default, fun _ => 0), fun q => absurd q hc⟩
  obtain ⟨f, hf⟩ := Classical.axiomOfChoice h
  obtain ⟨t0, a0, b0⟩ := l_arr (ty := .int) (htb _ wa_int)
  obtain ⟨t1, a1, b1⟩ := l_arr (ty := .byte) (htb _ wa_byte)
  obtain ⟨t2, a2, b2⟩ := l_arr (ty := .boolean) (htb _ wa_boolean)
  obtain ⟨t3, a3, b3⟩ := l_arr (ty := .long) (htb _ wa_long)
  obtain ⟨t4, k4, c4, n4, g4, q4, -⟩ := l_AOA (l_one lq_a2 hts)
  obtain ⟨c5, t5, k5, n5, -, g5, q5, m5⟩ := Cond.arrayOver_spec (l_one lq_a1 hts)
  refine ⟨(fun ci => (f ci).1, fun ci => (f ci).2), fun i => if i = 0 then t0 else if i = 1 then t1 else if i = 2 then t2 else if i = 3 then t3 else if i = 4 then t4 else t5, fun c q hq => ?_, fun k q hq => ?_⟩
  · have hc : c < 12 := (List.getElem?_eq_some_iff.mp hq).1
    rw [z_CLg hc] at hq
    cases hq
    exact hf c hc
  · have hk : k < 6 := (List.getElem?_eq_some_iff.mp hq).1
    rcases (show k = 0 ∨ k = 1 ∨ k = 2 ∨ k = 3 ∨ k = 4 ∨ k = 5 by omega) with rfl | rfl | rfl | rfl | rfl | rfl
    · cases hq; exact ⟨a0, b0⟩
    · cases hq; exact ⟨a1, b1⟩
    · cases hq; exact ⟨a2, b2⟩
    · cases hq; exact ⟨a3, b3⟩
    · cases hq; exact ⟨fun n z => ⟨fun k h => (by cases h), k4, g4, c4, q4⟩, n4⟩
    · cases hq; exact ⟨fun n z => ⟨fun k h => (by cases h), k5, g5, c5, q5⟩, k5, c5, g5, q5, n5, m5⟩
end GV
