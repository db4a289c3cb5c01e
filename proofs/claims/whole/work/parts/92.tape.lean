/-! the tape: feed, end, fault of both sides -/
def p_by (x : Int32) (s : Nat) : Nat := x.toBitVec.toNat / 2 ^ s % 256
theorem p_by_lt {x : Int32} {s : Nat} : p_by x s < 256 := Nat.mod_lt _ (by omega)
/-- a byte as the reference keeps it -/
def b_s (b : Nat) : Int32 := vp_nar .byte (nI b).toInt8.toInt32
theorem p_by_c {x : Int32} {s : Nat} (hs : s = 0 ∨ s = 8 ∨ s = 16 ∨ s = 24) : z_us x (nI s) &&& 255 = nI (p_by x s) := by
  have h1 := pk_and (z_us x (nI s)) (m := 255) 8 (by decide)
  rw [h1]
  unfold p_by
  rcases hs with rfl | rfl | rfl | rfl
  · rw [pk_ushr x (nI 0) 0 (by decide)]
  · rw [pk_ushr x (nI 8) 8 (by decide)]
  · rw [pk_ushr x (nI 16) 16 (by decide)]
  · rw [pk_ushr x (nI 24) 24 (by decide)]
theorem p_by_8 (y : Int32) : y.toInt8 = (nI (y.toBitVec.toNat % 256)).toInt8 := by
  apply Int8.toBitVec_inj.1
  rw [Int32.toBitVec_toInt8, Int32.toBitVec_toInt8, BitVec.signExtend_eq_setWidth_of_le _ (by omega), BitVec.signExtend_eq_setWidth_of_le _ (by omega)]
  apply BitVec.eq_of_toNat_eq
  rw [BitVec.toNat_setWidth, BitVec.toNat_setWidth, pk_tn (by omega)]
  omega
theorem p_by_m {x : Int32} {s : Nat} (hs : s ≤ 24) : vp_nar .byte (x >>> (nI s &&& 31)).toInt8.toInt32 = b_s (p_by x s) := by
  unfold b_s
  have e : (x >>> (nI s &&& 31)).toBitVec.toNat % 256 = p_by x s := by
    unfold p_by
    apply Nat.eq_of_testBit_eq
    intro i
    rw [show (256 : Nat) = 2 ^ 8 from rfl, Nat.testBit_mod_two_pow, Nat.testBit_mod_two_pow, Nat.testBit_div_two_pow]
    by_cases h : i < 8
    · have b := b_sshr s (by omega) x (i := i) (by omega)
      rw [if_pos (by omega)] at b
      have b' : (x >>> (nI s &&& 31)).toBitVec.toNat.testBit i = x.toBitVec.toNat.testBit (s + i) := b
      rw [b', Nat.add_comm]
    · rw [decide_eq_false h, Bool.false_and, Bool.false_and]
  rw [p_by_8, e]
def t_p1 (τ : Nat → Nat) (L b : Nat) : Nat → Nat := fun i => if i = L then b else τ i
def t_p4 (τ : Nat → Nat) (L : Nat) (x : Int32) : Nat → Nat := t_p1 (t_p1 (t_p1 (t_p1 τ L (p_by x 24)) (L + 1) (p_by x 16)) (L + 2) (p_by x 8)) (L + 3) (p_by x 0)
def t_fd (τ : Nat → Nat) (L : Nat) (x1 x2 x3 x4 x5 : Int32) : Nat → Nat := t_p4 (t_p4 (t_p4 (t_p4 (t_p4 τ L x1) (L + 4) x2) (L + 8) x3) (L + 12) x4) (L + 16) x5
theorem t_p1_lt {τ : Nat → Nat} {L b : Nat} (h : ∀ i, τ i < 256) (hb : b < 256) : ∀ i, t_p1 τ L b i < 256 := fun i => by
  unfold t_p1
  split
  · exact hb
  · exact h i
theorem t_p4_lt {τ : Nat → Nat} {L : Nat} {x : Int32} (h : ∀ i, τ i < 256) : ∀ i, t_p4 τ L x i < 256 := t_p1_lt (t_p1_lt (t_p1_lt (t_p1_lt h p_by_lt) p_by_lt) p_by_lt) p_by_lt
theorem t_fd_lt {τ : Nat → Nat} {L : Nat} {x1 x2 x3 x4 x5 : Int32} (h : ∀ i, τ i < 256) : ∀ i, t_fd τ L x1 x2 x3 x4 x5 i < 256 := t_p4_lt (t_p4_lt (t_p4_lt (t_p4_lt (t_p4_lt h))))
def c_Tp (v : z_Dat) (τ : Nat → Nat) (L : Nat) : Prop := v 141 0 = nI L ∧ L ≤ 240 ∧ ∀ i, i < L → v 142 i = nI (τ i)
def m_Tp (v : z_Dat) (τ : Nat → Nat) (L : Nat) : Prop := v 223 8 = nI L ∧ L ≤ 240 ∧ ∀ i, i < L → v 229 i = b_s (τ i)
def c_tf (v v1 : z_Dat) : Prop := (∀ b, b ≠ 141 → b ≠ 142 → v1 b = v b) ∧ ∀ j, j ≠ 0 → v1 141 j = v 141 j
def m_tf (v v1 : z_Dat) : Prop := (∀ b, b ≠ 223 → b ≠ 229 → v1 b = v b) ∧ ∀ j, j ≠ 0 → j ≠ 8 → v1 223 j = v 223 j
theorem c_tf.tr {v v1 v2 : z_Dat} (h1 : c_tf v v1) (h2 : c_tf v1 v2) : c_tf v v2 := ⟨fun b a1 a2 => (h2.1 b a1 a2).trans (h1.1 b a1 a2), fun j a1 => (h2.2 j a1).trans (h1.2 j a1)⟩
theorem m_tf.tr {v v1 v2 : z_Dat} (h1 : m_tf v v1) (h2 : m_tf v1 v2) : m_tf v v2 := ⟨fun b a1 a2 => (h2.1 b a1 a2).trans (h1.1 b a1 a2), fun j a1 a2 => (h2.2 j a1 a2).trans (h1.2 j a1 a2)⟩
def f_y (L : Nat) : Int32 := if L ≤ 220 then nI (L + 20) else -1
def f_L (L : Nat) : Nat := if L ≤ 220 then L + 20 else L
def f_t (τ : Nat → Nat) (L : Nat) (x1 x2 x3 x4 x5 : Int32) : Nat → Nat := if L ≤ 220 then t_fd τ L x1 x2 x3 x4 x5 else τ
section TP
variable {G : z_G} {d : Nat} {S : z_Shp} {v v0 : z_Dat} {Q : Option Value → z_Shp → z_Dat → Prop} {τ : Nat → Nat} {L s : Nat} {x x1 x2 x3 x4 x5 : Int32}
theorem sp_X6_put_3 (hL : z_L S) (hs : s = 0 ∨ s = 8 ∨ s = 16 ∨ s = 24) (hT : c_Tp v τ L) (hl : L < 240) (h : ∀ v1, c_Tp v1 (t_p1 τ L (p_by x s)) (L + 1) → c_tf v v1 → z_J G d mX6_put (3, [.ref 141, .int x, .int (nI s + (-8))], [], S, v1) Q) : z_J G d mX6_put (3, [.ref 141, .int x, .int (nI s)], [], S, v) Q := by
  obtain ⟨t1, t2, t3⟩ := hT
  refine sg_X6_put_3 hL ?_
  rw [t1, p_by_c hs, nI_clamp (by omega)]
  refine ⟨fun c => absurd c (nI_pos (by omega)), fun _ => ⟨fun c => absurd c (nI_ge (a := L) (b := 240) (by omega) (by omega)), fun _ => ⟨vp_in_nI (by omega) (by omega), fun v1 e1 v2 e2 => ?_⟩⟩⟩
  rw [show v1 141 0 = nI L by rw [e1, z_u_ne (by omega)]; exact t1, nI_1] at e2
  refine h v2 ⟨by rw [e2, z_ue rfl rfl], by omega, fun i hi => ?_⟩ ⟨fun b b1 b2 => by rw [e2, z_u_ne b1, e1, z_u_ne b2], fun j hj => by rw [e2, z_un (Or.inr hj), e1, z_u_ne (by omega)]⟩
  unfold t_p1
  by_cases z : i = L
  · rw [if_pos z, e2, z_u_ne (by omega), e1, z_ue rfl z]
  · rw [if_neg z, e2, z_u_ne (by omega), e1, z_un (Or.inr z)]; exact t3 i (by omega)
theorem sp_X6_put (hL : z_L S) (hT : c_Tp v τ L) (hl : L + 4 ≤ 240) (h : ∀ v1, c_Tp v1 (t_p4 τ L x) (L + 4) → c_tf v v1 → Q none S v1) : z_J G d mX6_put (0, [.ref 141, .int x, .null], [], S, v) Q := by
  refine sg_X6_put_0 ?_
  refine sp_X6_put_3 (s := 24) hL (by omega) hT (by omega) (fun v1 T1 f1 => ?_)
  refine sp_X6_put_3 (s := 16) hL (by omega) T1 (by omega) (fun v2 T2 f2 => ?_)
  refine sp_X6_put_3 (s := 8) hL (by omega) T2 (by omega) (fun v3 T3 f3 => ?_)
  refine sp_X6_put_3 (s := 0) hL (by omega) T3 (by omega) (fun v4 T4 f4 => ?_)
  exact sg_X6_put_3 hL ⟨fun _ => h v4 T4 (((f1.tr f2).tr f3).tr f4), fun c => absurd (by decide) c⟩
theorem sp_X11_four_3 (hL : z_L S) (hs : s ≤ 24) (hT : m_Tp v τ L) (hl : L < 240) (h : ∀ v1, m_Tp v1 (t_p1 τ L (p_by x s)) (L + 1) → m_tf v v1 → z_J G d mX11_four (3, [.ref 223, .int x, .int (nI s + (-8))], [], S, v1) Q) : z_J G d mX11_four (3, [.ref 223, .int x, .int (nI s)], [], S, v) Q := by
  obtain ⟨t1, t2, t3⟩ := hT
  refine sg_X11_four_3 hL ?_
  rw [t1, p_by_m hs, nI_clamp (by omega)]
  refine ⟨fun c => absurd c (nI_pos (by omega)), fun _ => ⟨vp_in_nI (by omega) (by omega), fun v1 e1 v2 e2 => ?_⟩⟩
  rw [show v1 223 8 = nI L by rw [e1, z_u_ne (by omega)]; exact t1, nI_1] at e2
  refine h v2 ⟨by rw [e2, z_ue rfl rfl], by omega, fun i hi => ?_⟩ ⟨fun b b1 b2 => by rw [e2, z_u_ne b1, e1, z_u_ne b2], fun j _ hj => by rw [e2, z_un (Or.inr hj), e1, z_u_ne (by omega)]⟩
  unfold t_p1
  by_cases z : i = L
  · rw [if_pos z, e2, z_u_ne (by omega), e1, z_ue rfl z]
  · rw [if_neg z, e2, z_u_ne (by omega), e1, z_un (Or.inr z)]; exact t3 i (by omega)
theorem sp_X11_four (hL : z_L S) (hT : m_Tp v τ L) (hl : L + 4 ≤ 240) (h : ∀ v1, m_Tp v1 (t_p4 τ L x) (L + 4) → m_tf v v1 → Q none S v1) : z_J G d mX11_four (0, [.ref 223, .int x, .null], [], S, v) Q := by
  refine sg_X11_four_0 ?_
  refine sp_X11_four_3 (s := 24) hL (by omega) hT (by omega) (fun v1 T1 f1 => ?_)
  refine sp_X11_four_3 (s := 16) hL (by omega) T1 (by omega) (fun v2 T2 f2 => ?_)
  refine sp_X11_four_3 (s := 8) hL (by omega) T2 (by omega) (fun v3 T3 f3 => ?_)
  refine sp_X11_four_3 (s := 0) hL (by omega) T3 (by omega) (fun v4 T4 f4 => ?_)
  exact sg_X11_four_3 hL ⟨fun _ => h v4 T4 (((f1.tr f2).tr f3).tr f4), fun c => absurd (by decide) c⟩
theorem sp_X10_feed (hd : 1 ≤ d) (hL : z_L S) (hT : c_Tp v τ L) (h : ∀ v1, c_Tp v1 (f_t τ L x1 x2 x3 x4 x5) (f_L L) → c_tf v v1 → Q (some (.int (f_y L))) S v1) : z_J G d mX10_feed (0, [.ref 0, .int x1, .int x2, .int x3, .int x4, .int x5], [], S, v) Q := by
  obtain ⟨d, rfl⟩ : ∃ e, d = e + 1 := ⟨d - 1, by omega⟩
  have hl := hT.2.1
  refine sg_X10_feed_0 hL ?_
  rw [hT.1]
  unfold f_t f_L f_y at h
  refine ⟨fun c => ?_, fun c => ?_⟩
  · have c := (nI_leI (b := 220) (by omega) (by omega)).mp c
    rw [if_pos c, if_pos c, if_pos c] at h
    refine sp_X6_put hL hT (by omega) (fun v1 T1 f1 => ⟨rfl, rfl, ?_⟩)
    refine sp_X6_put hL T1 (by omega) (fun v2 T2 f2 => ⟨rfl, rfl, ?_⟩)
    refine sp_X6_put hL T2 (by omega) (fun v3 T3 f3 => ⟨rfl, rfl, ?_⟩)
    refine sp_X6_put hL T3 (by omega) (fun v4 T4 f4 => ⟨rfl, rfl, ?_⟩)
    refine sp_X6_put hL T4 (by omega) (fun v5 T5 f5 => ⟨rfl, rfl, ?_⟩)
    rw [T5.1]
    exact h v5 T5 ((((f1.tr f2).tr f3).tr f4).tr f5)
  · have c : ¬ L ≤ 220 := fun z => c (nI_le (b := 220) z (by omega))
    rw [if_neg c, if_neg c, if_neg c] at h
    exact h v hT ⟨fun _ _ _ => rfl, fun _ _ => rfl⟩
theorem sp_X11_feed (hd : 1 ≤ d) (hL : z_L S) (hT : m_Tp v τ L) (h : ∀ v1, m_Tp v1 (f_t τ L x1 x2 x3 x4 x5) (f_L L) → m_tf v v1 → Q (some (.int (f_y L))) S v1) : z_J G d mX11_feed (0, [.ref 223, .int x1, .int x2, .int x3, .int x4, .int x5], [], S, v) Q := by
  obtain ⟨d, rfl⟩ : ∃ e, d = e + 1 := ⟨d - 1, by omega⟩
  have hl := hT.2.1
  refine sg_X11_feed_0 hL (fun v0 e0 => ?_)
  have f0 : m_tf v v0 := by rw [e0]; exact ⟨fun b b1 _ => by rw [z_u_ne b1], fun j hj _ => by rw [z_un (Or.inr hj)]⟩
  have T0 : m_Tp v0 τ L := ⟨by rw [e0, z_un (by omega)]; exact hT.1, hl, fun i hi => by rw [e0, z_u_ne (by omega)]; exact hT.2.2 i hi⟩
  rw [T0.1, show (20 : Int32) = nI 20 from rfl, nI_add]
  unfold f_t f_L f_y at h
  refine ⟨fun c => ?_, fun c => ?_⟩
  · have c := (nI_leI (b := 240) (by omega) (by omega)).mp c
    have c : L ≤ 220 := by omega
    rw [if_pos c, if_pos c, if_pos c] at h
    refine sp_X11_four hL T0 (by omega) (fun v1 T1 f1 => ⟨rfl, rfl, ?_⟩)
    refine sp_X11_four hL T1 (by omega) (fun v2 T2 f2 => ⟨rfl, rfl, ?_⟩)
    refine sp_X11_four hL T2 (by omega) (fun v3 T3 f3 => ⟨rfl, rfl, ?_⟩)
    refine sp_X11_four hL T3 (by omega) (fun v4 T4 f4 => ⟨rfl, rfl, ?_⟩)
    refine sp_X11_four hL T4 (by omega) (fun v5 T5 f5 => ⟨rfl, rfl, ?_⟩)
    rw [T5.1]
    exact h v5 T5 (f0.tr ((((f1.tr f2).tr f3).tr f4).tr f5))
  · have c : ¬ L ≤ 220 := fun z => c (nI_le (b := 240) (by omega) (by omega))
    rw [if_neg c, if_neg c, if_neg c] at h
    exact h v0 T0 f0
def a_end (L : Nat) (x1 : Int32) (n : Nat) : Prop := n ≤ L ∧ x1 = nI n
theorem sp_X10_end (hL : z_L S) (hT : c_Tp v τ L) (h1 : ∀ v1 n, a_end L x1 n → c_Tp v1 τ n → c_tf v v1 → Q (some (.int 1)) S v1) (h0 : (¬ ∃ n, a_end L x1 n) → Q (some (.int 0)) S v) : z_J G d mX10_end (0, [.ref 0, .int x1], [], S, v) Q := by
  have hl := hT.2.1
  refine sg_X10_end_0 hL ?_
  rw [hT.1]
  refine ⟨fun c => h0 (fun ⟨n, q1, q2⟩ => nI_pos (n := n) (by omega) (by rw [← q2]; exact c)), fun c => ?_⟩
  obtain ⟨n, hn, rfl⟩ := nI_of c
  refine ⟨fun c2 v1 e1 => ?_, fun c2 => h0 (fun ⟨n', q1, q2⟩ => c2 (by rw [q2]; exact nI_le q1 (by omega)))⟩
  have c2 := (nI_leI hn (by omega)).mp c2
  exact h1 v1 n ⟨c2, rfl⟩ ⟨by rw [e1, z_ue rfl rfl], by omega, fun i hi => by rw [e1, z_u_ne (by omega)]; exact hT.2.2 i (by omega)⟩ ⟨fun b b1 _ => by rw [e1, z_u_ne b1], fun j hj => by rw [e1, z_un (Or.inr hj)]⟩
theorem sp_X11_end (hL : z_L S) (hT : m_Tp v τ L) (h1 : ∀ v1 n, a_end L x1 n → m_Tp v1 τ n → m_tf v v1 → Q (some (.int 1)) S v1) (h0 : ∀ v1, (¬ ∃ n, a_end L x1 n) → v1 = z_u v 223 0 0 → Q (some (.int 0)) S v1) : z_J G d mX11_end (0, [.ref 223, .int x1], [], S, v) Q := by
  have hl := hT.2.1
  refine sg_X11_end_0 hL (fun v0 e0 => ?_)
  rw [show v0 223 8 = nI L by rw [e0, z_un (by omega)]; exact hT.1]
  refine ⟨fun c => h0 v0 (fun ⟨n, q1, q2⟩ => nI_pos (n := n) (by omega) (by rw [← q2]; exact c)) e0, fun c => ?_⟩
  obtain ⟨n, hn, rfl⟩ := nI_of c
  refine ⟨fun c2 v1 e1 => ?_, fun c2 => h0 v0 (fun ⟨n', q1, q2⟩ => c2 (by rw [q2]; exact nI_le q1 (by omega))) e0⟩
  have c2 := (nI_leI hn (by omega)).mp c2
  exact h1 v1 n ⟨c2, rfl⟩ ⟨by rw [e1, z_ue rfl rfl], by omega, fun i hi => by rw [e1, z_u_ne (by omega), e0, z_u_ne (by omega)]; exact hT.2.2 i (by omega)⟩ ⟨fun b b1 _ => by rw [e1, z_u_ne b1, e0, z_u_ne b1], fun j j1 j2 => by rw [e1, z_un (Or.inr j2), e0, z_un (Or.inr j1)]⟩
end TP
