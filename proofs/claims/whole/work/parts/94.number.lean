/-! a number on the tape: both sides -/
def t_de (τ : Nat → Nat) : Nat → Nat → Nat
  | 0, p => p
  | f + 1, p => if 48 ≤ τ p ∧ τ p ≤ 57 then t_de τ f (p + 1) else p
def t_vv (τ : Nat → Nat) : Nat → Nat → Nat → Nat
  | 0, _, x => x
  | f + 1, p, x => if 48 ≤ τ p ∧ τ p ≤ 57 then t_vv τ f (p + 1) (if 99 < x then x else 10 * x + (τ p - 48)) else x
def t_e (τ : Nat → Nat) (L p : Nat) : Nat := t_de τ (L - p) p
def t_n (τ : Nat → Nat) (L p x : Nat) : Nat := t_vv τ (L - p) p x
theorem t_e_e {τ : Nat → Nat} {L p x : Nat} (h : L ≤ p) : t_e τ L p = p ∧ t_n τ L p x = x := by
  unfold t_e t_n
  rw [show L - p = 0 by omega]; exact ⟨rfl, rfl⟩
theorem t_e_n {τ : Nat → Nat} {L p x : Nat} (h : p < L) (h1 : 48 ≤ τ p ∧ τ p ≤ 57) : t_e τ L p = t_e τ L (p + 1) ∧ t_n τ L p x = t_n τ L (p + 1) (if 99 < x then x else 10 * x + (τ p - 48)) := by
  unfold t_e t_n
  rw [show L - p = (L - (p + 1)) + 1 by omega, t_de, t_vv, if_pos h1, if_pos h1]; exact ⟨rfl, rfl⟩
theorem t_e_h {τ : Nat → Nat} {L p x : Nat} (h : p < L) (h1 : ¬ (48 ≤ τ p ∧ τ p ≤ 57)) : t_e τ L p = p ∧ t_n τ L p x = x := by
  unfold t_e t_n
  rw [show L - p = (L - (p + 1)) + 1 by omega, t_de, t_vv, if_neg h1, if_neg h1]; exact ⟨rfl, rfl⟩
theorem t_e_le {τ : Nat → Nat} {L : Nat} : ∀ f p, p + f = L → p ≤ t_e τ L p ∧ t_e τ L p ≤ L
  | 0, p, h => by rw [(t_e_e (x := 0) (show L ≤ p by omega)).1]; omega
  | f + 1, p, h => by
    by_cases z : 48 ≤ τ p ∧ τ p ≤ 57
    · rw [(t_e_n (x := 0) (by omega) z).1]
      have := t_e_le (τ := τ) (L := L) f (p + 1) (by omega)
      omega
    · rw [(t_e_h (x := 0) (by omega) z).1]; omega
/-- whether a number stands next; whether it is one of those that may; the fault that is told otherwise -/
def t_id (τ : Nat → Nat) (L p : Nat) : Prop := t_s τ L p < L ∧ 48 ≤ τ (t_s τ L p) ∧ τ (t_s τ L p) ≤ 57
def t_ok (τ : Nat → Nat) (L p lo hi : Nat) : Prop := t_id τ L p ∧ lo ≤ t_n τ L (t_s τ L p) 0 ∧ t_n τ L (t_s τ L p) 0 ≤ hi
def t_nf (τ : Nat → Nat) (L p lo hi fk : Nat) : Prop := (fk = 1 ∧ ¬ t_id τ L p) ∨ (fk = 2 ∧ t_id τ L p ∧ ¬ t_ok τ L p lo hi)
theorem t_e_gt {τ : Nat → Nat} {L q : Nat} (h : q < L) (h1 : 48 ≤ τ q ∧ τ q ≤ 57) : q < t_e τ L q := by
  rw [(t_e_n (x := 0) h h1).1]
  have := t_e_le (τ := τ) (L := L) (L - (q + 1)) (q + 1) (by omega)
  omega
def c_nw (a k : Nat) (v v1 : z_Dat) : Prop := (∀ b, b ≠ 141 → b ≠ a → v1 b = v b) ∧ (∀ j, j ≠ k → v1 a j = v a j) ∧ ∀ j, j ≠ 12 → v1 141 j = v 141 j
def m_nw (k : Nat) (v v1 : z_Dat) : Prop := (∀ b, b ≠ 223 → b ≠ 234 → v1 b = v b) ∧ (∀ j, j ≠ k → v1 234 j = v 234 j) ∧ ∀ j, j ≠ 19 → v1 223 j = v 223 j
def m_nx (k : Nat) (v v1 : z_Dat) : Prop := (∀ b, b ≠ 223 → b ≠ 234 → v1 b = v b) ∧ (∀ j, j ≠ k → v1 234 j = v 234 j) ∧ ∀ j, j ≠ 19 → j ≠ 20 → j ≠ 21 → v1 223 j = v 223 j
section NB
variable {G : z_G} {d : Nat} {S : z_Shp} {v v0 : z_Dat} {Q : Option Value → z_Shp → z_Dat → Prop} {τ : Nat → Nat} {L p lo hi k a : Nat}
theorem sp_X6_readNumber (hd : 1 ≤ d) (hL : z_L S) (ha : z_k S a = 21) (hla : z_l S a = 30) (ha2 : a ≠ 141 ∧ a ≠ 142) (hk : k < 30) (hh : hi ≤ 99) (hlo : lo ≤ 99) (hT : c_Tp v τ L) (hτ : ∀ i, τ i < 256) (hp : v 141 12 = nI p) (hpL : p ≤ L)
    (h1 : ∀ v1, t_ok τ L p lo hi → v1 141 12 = nI (t_e τ L (t_s τ L p)) → v1 a k = nI (t_n τ L (t_s τ L p) 0) → c_nw a k v v1 → Q (some (.int 1)) S v1)
    (h0 : ∀ v1 fk, t_nf τ L p lo hi fk → v1 141 1 = nI fk → v1 141 2 = nI (t_s τ L p) → c_ft v v1 → Q (some (.int 0)) S v1) : z_J G d mX6_readNumber (0, [.ref 141, .ref a, .int (nI k), .int (nI lo), .int (nI hi), .null, .null], [], S, v) Q := by
  obtain ⟨d, rfl⟩ : ∃ e, d = e + 1 := ⟨d - 1, by omega⟩
  have hl := hT.2.1
  have hq := t_s_b (τ := τ) hpL
  refine sg_X6_readNumber_0 hL ha ?_
  refine sp_X6_signAhead hL hT hτ hp hpL (fun v1 e1 a1 => ⟨_, rfl, rfl, ?_⟩)
  rw [e1]
  generalize hqe : t_s τ L p = q at *
  have key : ∀ f i v2 vc vr, i + f = L → q ≤ i → t_e τ L i = t_e τ L q → t_n τ L i vr = t_n τ L q 0 → ((vc = vr ∧ vr ≤ 99) ∨ (99 < vc ∧ vc ≤ 1000 ∧ 99 < vr)) → v2 141 12 = nI i → c_at v v2 → z_J G (d + 1) mX6_readNumber (14, [.ref 141, .ref a, .int (nI k), .int (nI lo), .int (nI hi), .int (nI q), .int (nI vc)], [], S, v2) Q := by
    intro f
    have fin : ∀ i v2 vc vr, i ≤ L → q ≤ i → t_e τ L q = i → t_n τ L q 0 = vr → ((vc = vr ∧ vr ≤ 99) ∨ (99 < vc ∧ vc ≤ 1000 ∧ 99 < vr)) → v2 141 12 = nI i → c_at v v2 →
        (¬ nI i = nI q → ((nI vc < nI lo → (z_J G d mX6_hasFault (0, [.ref 141, .int 2, .int (nI q)], [], S, v2) (fun r S1 v1 => ∃ y1 : Int32, r = some (.int y1) ∧ S1 = S ∧ (narrow .boolean (.int y1) = .int y1 ∧ Q (some (.int y1)) S v1)))) ∧ (¬ nI vc < nI lo → ((nI vc ≤ nI hi → (vp_in (nI k) (z_l S a) ∧ (∀ v3, v3 = z_u v2 a (nI k).toNatClampNeg (nI vc) → (Q (some (.int 1)) S v3)))) ∧ (¬ nI vc ≤ nI hi → (z_J G d mX6_hasFault (0, [.ref 141, .int 2, .int (nI q)], [], S, v2) (fun r S1 v3 => ∃ y2 : Int32, r = some (.int y2) ∧ S1 = S ∧ (narrow .boolean (.int y2) = .int y2 ∧ Q (some (.int y2)) S v3)))))))) ∧ (nI i = nI q → (z_J G d mX6_hasFault (0, [.ref 141, .int 1, .int (nI q)], [], S, v2) (fun r S1 v4 => ∃ y3 : Int32, r = some (.int y3) ∧ S1 = S ∧ (narrow .boolean (.int y3) = .int y3 ∧ Q (some (.int y3)) S v4)))) := by
      intro i v2 vc vr hi1 hi2 ee en hR e2 a2
      have bad : ∀ fk, t_nf τ L p lo hi fk → ∀ x, x = nI fk → z_J G d mX6_hasFault (0, [.ref 141, .int x, .int (nI q)], [], S, v2) (fun r S1 v1 => ∃ y1 : Int32, r = some (.int y1) ∧ S1 = S ∧ (narrow .boolean (.int y1) = .int y1 ∧ Q (some (.int y1)) S v1)) := by
        intro fk hf x hx
        subst hx
        refine sg_X6_hasFault_0 hL (fun v3 e3 v4 e4 => ⟨_, rfl, rfl, rfl, ?_⟩)
        exact h0 v4 fk hf (by rw [e4, z_un (by omega), e3, z_ue rfl rfl]) (by rw [e4, z_ue rfl rfl]) ⟨fun b b1 => by rw [e4, z_u_ne b1, e3, z_u_ne b1]; exact a2.1 b b1, fun j j1 j2 j3 => by rw [e4, z_un (Or.inr j3), e3, z_un (Or.inr j2)]; exact a2.2 j j1⟩
      have isd : ¬ i = q → t_id τ L p := fun z => by
        unfold t_id
        rw [hqe]
        refine ⟨by omega, ?_⟩
        by_cases y : 48 ≤ τ q ∧ τ q ≤ 57
        · exact y
        · rw [(t_e_h (x := 0) (show q < L by omega) y).1] at ee
          exact absurd ee.symm z
      refine ⟨fun c => ?_, fun c => ?_⟩
      · have ci : ¬ i = q := fun z => c (by rw [z])
        have hid := isd ci
        have no : ¬ (lo ≤ vr ∧ vr ≤ hi) → t_nf τ L p lo hi 2 := fun z => Or.inr ⟨rfl, hid, fun y => z (by have y2 := y.2; rw [hqe, en] at y2; exact y2)⟩
        refine ⟨fun c2 => bad 2 (no ?_) 2 rfl, fun c2 => ⟨fun c3 => ⟨by rw [hla]; exact vp_in_nI hk (by omega), fun v3 e3 => ?_⟩, fun c3 => bad 2 (no ?_) 2 rfl⟩⟩
        · have c2 := (nI_ltI (by omega) (by omega)).mp c2
          omega
        · have c2 : lo ≤ vc := Nat.not_lt.mp (fun z => c2 (nI_lt z (by omega)))
          have c3 := (nI_leI (by omega) (by omega)).mp c3
          have ev : vc = vr := by omega
          rw [nI_clamp (by omega)] at e3
          have hok : t_ok τ L p lo hi := ⟨hid, by rw [hqe, en]; omega, by rw [hqe, en]; omega⟩
          refine h1 v3 hok ?_ ?_ ⟨fun b b1 b2 => by rw [e3, z_u_ne b2]; exact a2.1 b b1, fun j hj => by rw [e3, z_un (Or.inr hj)]; exact congrFun (a2.1 a ha2.1) j, fun j hj => by rw [e3, z_u_ne (Ne.symm ha2.1)]; exact a2.2 j hj⟩
          · rw [e3, z_u_ne (Ne.symm ha2.1), e2, ee]
          · rw [e3, z_ue rfl rfl, ev, en]
        · have c3 : ¬ vc ≤ hi := fun z => c3 (nI_le z (by omega))
          omega
      · have ci : i = q := (nI_eq (by omega) (by omega)).mp c
        refine bad 1 (Or.inl ⟨rfl, fun z => ?_⟩) 1 rfl
        unfold t_id at z
        rw [hqe] at z
        have := t_e_gt z.1 z.2
        omega
    induction f with
    | zero =>
      intro i v2 vc vr hf hi2 ee en hR e2 a2
      have T2 := a2.T hT
      rw [(t_e_e (x := vr) (show L ≤ i by omega)).1] at ee
      rw [(t_e_e (x := vr) (show L ≤ i by omega)).2] at en
      refine sg_X6_readNumber_14 hL ha ?_
      rw [T2.1, e2]
      exact ⟨fun _ => fin i v2 vc vr (by omega) hi2 ee.symm en.symm hR e2 a2, fun c => absurd (nI_le (by omega) (by omega)) c⟩
    | succ f ih =>
      intro i v2 vc vr hf hi2 ee en hR e2 a2
      have T2 := a2.T hT
      have hb := hτ i
      have hin : vp_in (nI i) 240 := vp_in_nI (by omega) (by omega)
      have stop : ¬ (48 ≤ τ i ∧ τ i ≤ 57) → _ := fun z => fin i v2 vc vr (by omega) hi2 (by rw [(t_e_h (x := vr) (by omega) z).1] at ee; exact ee.symm) (by rw [(t_e_h (x := vr) (by omega) z).2] at en; exact en.symm) hR e2 a2
      refine sg_X6_readNumber_14 hL ha ?_
      rw [T2.1, e2, nI_clamp (n := i) (by omega), T2.2.2 i (by omega), nI_1]
      refine ⟨fun c => absurd c (nI_ge (by omega) (by omega)), fun _ => ⟨hin, fun c => stop (fun z => ?_), fun c => ⟨hin, fun c2 => stop (fun z => ?_), fun c2 => ⟨hin, fun v3 e3 => ?_⟩⟩⟩⟩
      · exact absurd c (nI_nlt (b := 48) z.1 (by omega))
      · exact absurd c2 (nI_nlt (a := 57) z.2 (by omega))
      · have d1 : 48 ≤ τ i := Nat.not_lt.mp (fun z => c (nI_lt (b := 48) z (by omega)))
        have d2 : τ i ≤ 57 := Nat.not_lt.mp (fun z => c2 (nI_lt (a := 57) z (by omega)))
        obtain ⟨u1, u2⟩ := t_e_n (x := vr) (show i < L by omega) ⟨d1, d2⟩
        rw [show (10 : Int32) = nI 10 from rfl, pk_mul, nI_add, show (48 : Int32) = nI 48 from rfl, pk_sub (by omega), show (1000 : Int32) = nI 1000 from rfl]
        have a3 : c_at v v3 := ⟨fun b b1 => by rw [e3, z_u_ne b1]; exact a2.1 b b1, fun j hj => by rw [e3, z_un (Or.inr hj)]; exact a2.2 j hj⟩
        have go : ∀ w, ((w = (if 99 < vr then vr else 10 * vr + (τ i - 48)) ∧ (if 99 < vr then vr else 10 * vr + (τ i - 48)) ≤ 99) ∨ (99 < w ∧ w ≤ 1000 ∧ 99 < (if 99 < vr then vr else 10 * vr + (τ i - 48)))) → z_J G (d + 1) mX6_readNumber (14, [.ref 141, .ref a, .int (nI k), .int (nI lo), .int (nI hi), .int (nI q), .int (nI w)], [], S, v3) Q := fun w hw => ih (i + 1) v3 w _ (by omega) (by omega) (u1.symm.trans ee) (u2.symm.trans en) hw (by rw [e3, z_ue rfl rfl]) a3
        by_cases z : vc * 10 + τ i - 48 < 1000
        · rw [if_pos (nI_lt z (by omega))]
          refine go _ ?_
          rcases hR with ⟨r1, r2⟩ | ⟨r1, r2, r3⟩
          · rw [if_neg (by omega)]; omega
          · omega
        · rw [if_neg (nI_nlt (by omega) (by omega))]
          refine go _ ?_
          rcases hR with ⟨r1, r2⟩ | ⟨r1, r2, r3⟩
          · omega
          · rw [if_pos r3]; omega
  exact key (L - q) q v1 0 0 (by omega) (Nat.le_refl _) rfl rfl (Or.inl ⟨rfl, by omega⟩) e1 a1
end NB
