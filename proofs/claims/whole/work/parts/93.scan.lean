/-! reading the tape: blanks, one sign; faults; both sides -/
theorem b_s_lo {b : Nat} (h : b < 128) : b_s b = nI b := s_nar b h
theorem b_s_hi4 : ∀ s, s < 32 → ((b_s (128 + s) < 0 ∧ b_s (128 + s) &&& 255 = nI (128 + s)) ∧ (b_s (160 + s) < 0 ∧ b_s (160 + s) &&& 255 = nI (160 + s)) ∧ (b_s (192 + s) < 0 ∧ b_s (192 + s) &&& 255 = nI (192 + s)) ∧ (b_s (224 + s) < 0 ∧ b_s (224 + s) &&& 255 = nI (224 + s))) := by decide
theorem b_s_hi {b : Nat} (h1 : 128 ≤ b) (h2 : b < 256) : b_s b < 0 ∧ b_s b &&& 255 = nI b := by
  rcases (show b < 160 ∨ (160 ≤ b ∧ b < 192) ∨ (192 ≤ b ∧ b < 224) ∨ 224 ≤ b by omega) with z | z | z | z
  · have := (b_s_hi4 (b - 128) (by omega)).1
    rw [show 128 + (b - 128) = b by omega] at this; exact this
  · have := (b_s_hi4 (b - 160) (by omega)).2.1
    rw [show 160 + (b - 160) = b by omega] at this; exact this
  · have := (b_s_hi4 (b - 192) (by omega)).2.2.1
    rw [show 192 + (b - 192) = b by omega] at this; exact this
  · have := (b_s_hi4 (b - 224) (by omega)).2.2.2
    rw [show 224 + (b - 224) = b by omega] at this; exact this
theorem b_s_and {b : Nat} (h : b < 256) : b_s b &&& 255 = nI b := by
  rcases Nat.lt_or_ge b 128 with z | z
  · rw [b_s_lo z, show (255 : Int32) = nI 255 from rfl, nx_and, show (255 : Nat) = 2 ^ 8 - 1 from rfl, Nat.and_two_pow_sub_one_eq_mod, Nat.mod_eq_of_lt (by omega)]
  · exact (b_s_hi z h).2
theorem b_s_eq {b c : Nat} (h : b < 256) (hc : c < 128) : b_s b = nI c ↔ b = c := by
  rcases Nat.lt_or_ge b 128 with z | z
  · rw [b_s_lo z]; exact nI_eq (by omega) (by omega)
  · exact ⟨fun e => absurd ((b_s_hi z h).1) (by rw [e]; exact nI_pos (by omega)), fun e => by omega⟩
theorem b_s_lt {b c : Nat} (h : b < 256) (hc : c < 128) : b_s b < nI c ↔ (b < c ∨ 128 ≤ b) := by
  rcases Nat.lt_or_ge b 128 with z | z
  · rw [b_s_lo z, nI_ltI (by omega) (by omega)]; omega
  · exact ⟨fun _ => Or.inr z, fun _ => Int32.lt_of_lt_of_le (b_s_hi z h).1 (Int32.not_lt.mp (nI_pos (by omega)))⟩
theorem b_s_gt {b c : Nat} (h : b < 256) (hc : c < 128) : nI c < b_s b ↔ (c < b ∧ b < 128) := by
  rcases Nat.lt_or_ge b 128 with z | z
  · rw [b_s_lo z, nI_ltI (by omega) (by omega)]; omega
  · exact ⟨fun e => absurd (Int32.lt_trans e (b_s_hi z h).1) (nI_pos (by omega)), fun e => by omega⟩
/-- the first place from p on that is no blank -/
def t_sk (τ : Nat → Nat) : Nat → Nat → Nat
  | 0, p => p
  | f + 1, p => if τ p = 32 then t_sk τ f (p + 1) else p
def t_s (τ : Nat → Nat) (L p : Nat) : Nat := t_sk τ (L - p) p
theorem t_s_e {τ : Nat → Nat} {L p : Nat} (h : L ≤ p) : t_s τ L p = p := by unfold t_s; rw [show L - p = 0 by omega]; rfl
theorem t_s_n {τ : Nat → Nat} {L p : Nat} (h : p < L) (h1 : τ p = 32) : t_s τ L p = t_s τ L (p + 1) := by
  unfold t_s
  rw [show L - p = (L - (p + 1)) + 1 by omega, t_sk, if_pos h1]
theorem t_s_h {τ : Nat → Nat} {L p : Nat} (h : p < L) (h1 : ¬ τ p = 32) : t_s τ L p = p := by
  unfold t_s
  rw [show L - p = (L - (p + 1)) + 1 by omega, t_sk, if_neg h1]
theorem t_s_le {τ : Nat → Nat} {L : Nat} : ∀ f p, p + f = L → p ≤ t_s τ L p ∧ t_s τ L p ≤ L
  | 0, p, h => by rw [t_s_e (by omega)]; omega
  | f + 1, p, h => by
    by_cases z : τ p = 32
    · rw [t_s_n (by omega) z]
      have := t_s_le (τ := τ) (L := L) f (p + 1) (by omega)
      omega
    · rw [t_s_h (by omega) z]; omega
theorem t_s_b {τ : Nat → Nat} {L p : Nat} (h : p ≤ L) : p ≤ t_s τ L p ∧ t_s τ L p ≤ L := t_s_le (L - p) p (by omega)
/-- what stands at a place; -1: the end -/
def t_k (τ : Nat → Nat) (L p : Nat) : Int32 := if p < L then nI (τ p) else -1
/-- fields of the class' script, of the reference: but the place all stay; a fault is told -/
def c_at (v v1 : z_Dat) : Prop := (∀ b, b ≠ 141 → v1 b = v b) ∧ ∀ j, j ≠ 12 → v1 141 j = v 141 j
def m_at (v v1 : z_Dat) : Prop := (∀ b, b ≠ 223 → v1 b = v b) ∧ ∀ j, j ≠ 19 → v1 223 j = v 223 j
def c_ft (v v1 : z_Dat) : Prop := (∀ b, b ≠ 141 → v1 b = v b) ∧ ∀ j, j ≠ 12 → j ≠ 1 → j ≠ 2 → v1 141 j = v 141 j
def m_ft (v v1 : z_Dat) : Prop := (∀ b, b ≠ 223 → v1 b = v b) ∧ ∀ j, j ≠ 19 → j ≠ 20 → j ≠ 21 → v1 223 j = v 223 j
def m_Ts2 (v : z_Dat) (τ : Nat → Nat) (L : Nat) : Prop := v 223 9 = nI L ∧ L ≤ 240 ∧ (∀ i, τ i < 256) ∧ ∀ i, i < L → v 229 i = b_s (τ i)
theorem c_at.T {v v1 : z_Dat} {τ : Nat → Nat} {L : Nat} (h : c_at v v1) (hT : c_Tp v τ L) : c_Tp v1 τ L := by
  unfold c_Tp
  rw [h.2 0 (by omega), h.1 142 (by omega)]; exact hT
theorem m_at.T {v v1 : z_Dat} {τ : Nat → Nat} {L : Nat} (h : m_at v v1) (hT : m_Ts2 v τ L) : m_Ts2 v1 τ L := by
  unfold m_Ts2
  rw [h.2 9 (by omega), h.1 229 (by omega)]; exact hT
section SC
variable {G : z_G} {d : Nat} {S : z_Shp} {v v0 : z_Dat} {Q : Option Value → z_Shp → z_Dat → Prop} {τ : Nat → Nat} {L p c : Nat}
theorem sp_X6_signAhead (hL : z_L S) (hT : c_Tp v τ L) (hτ : ∀ i, τ i < 256) (hp : v 141 12 = nI p) (hpL : p ≤ L) (h : ∀ v1, v1 141 12 = nI (t_s τ L p) → c_at v v1 → Q (some (.int (t_k τ L (t_s τ L p)))) S v1) : z_J G d mX6_signAhead (0, [.ref 141], [], S, v) Q := by
  have hl := hT.2.1
  have key : ∀ f p v1, p + f = L → t_s τ L p = t_s τ L p → (∀ v2, v2 141 12 = nI (t_s τ L p) → c_at v1 v2 → Q (some (.int (t_k τ L (t_s τ L p)))) S v2) → c_Tp v1 τ L → v1 141 12 = nI p → z_J G d mX6_signAhead (0, [.ref 141], [], S, v1) Q := by
    intro f
    induction f with
    | zero =>
      intro p v1 hf _ hq T1 e1
      refine sg_X6_signAhead_0 hL ?_
      rw [T1.1, e1]
      rw [t_s_e (by omega)] at hq
      unfold t_k at hq
      rw [if_neg (by omega)] at hq
      have yes : nI L ≤ nI p := nI_le (by omega) (by omega)
      exact ⟨fun _ => ⟨fun _ => hq v1 e1 ⟨fun _ _ => rfl, fun _ _ => rfl⟩, fun c => absurd yes c⟩, fun c => absurd yes c⟩
    | succ f ih =>
      intro p v1 hf _ hq T1 e1
      have no : ¬ nI L ≤ nI p := nI_ge (by omega) (by omega)
      have hin : vp_in (nI p) 240 := vp_in_nI (by omega) (by omega)
      have hb := hτ p
      refine sg_X6_signAhead_0 hL ?_
      rw [T1.1, e1, nI_clamp (by omega), T1.2.2 p (by omega), nI_1]
      refine ⟨fun c => absurd c no, fun _ => ⟨hin, fun c => ⟨fun c => absurd c no, fun _ => ⟨hin, ?_⟩⟩, fun c v2 e2 => ?_⟩⟩
      · have c : ¬ τ p = 32 := fun z => c (by rw [z]; rfl)
        rw [t_s_h (by omega) c] at hq
        unfold t_k at hq
        rw [if_pos (by omega)] at hq
        exact hq v1 e1 ⟨fun _ _ => rfl, fun _ _ => rfl⟩
      · have c : τ p = 32 := (nI_eq (b := 32) (by omega) (by omega)).mp c
        rw [t_s_n (by omega) c] at hq
        have a2 : c_at v1 v2 := by rw [e2]; exact ⟨fun b b1 => by rw [z_u_ne b1], fun j hj => by rw [z_un (Or.inr hj)]⟩
        refine ih (p + 1) v2 (by omega) rfl (fun v3 e3 a3 => hq v3 e3 ⟨fun b b1 => (a3.1 b b1).trans (a2.1 b b1), fun j hj => (a3.2 j hj).trans (a2.2 j hj)⟩) (a2.T T1) (by rw [e2, z_ue rfl rfl])
  exact key (L - p) p v (by omega) rfl h hT hp
theorem sp_X11_peek (hL : z_L S) (hT : m_Ts2 v τ L) (hp : v 223 19 = nI p) (hpL : p ≤ L) (h : ∀ v1, v1 223 19 = nI (t_s τ L p) → m_at v v1 → Q (some (.int (t_k τ L (t_s τ L p)))) S v1) : z_J G d mX11_peek (0, [.ref 223], [], S, v) Q := by
  have hl := hT.2.1
  have key : ∀ f p v1, p + f = L → (∀ v2, v2 223 19 = nI (t_s τ L p) → m_at v1 v2 → Q (some (.int (t_k τ L (t_s τ L p)))) S v2) → m_Ts2 v1 τ L → v1 223 19 = nI p → z_J G d mX11_peek (0, [.ref 223], [], S, v1) Q := by
    intro f
    induction f with
    | zero =>
      intro p v1 hf hq T1 e1
      refine sg_X11_peek_0 hL ?_
      rw [T1.1, e1]
      rw [t_s_e (by omega)] at hq
      unfold t_k at hq
      rw [if_neg (by omega)] at hq
      have yes : nI L ≤ nI p := nI_le (by omega) (by omega)
      exact ⟨fun _ => ⟨fun _ => hq v1 e1 ⟨fun _ _ => rfl, fun _ _ => rfl⟩, fun c => absurd yes c⟩, fun c => absurd yes c⟩
    | succ f ih =>
      intro p v1 hf hq T1 e1
      have no : ¬ nI L ≤ nI p := nI_ge (by omega) (by omega)
      have hin : vp_in (nI p) 240 := vp_in_nI (by omega) (by omega)
      have hb := T1.2.2.1 p
      refine sg_X11_peek_0 hL ?_
      rw [T1.1, e1, nI_clamp (by omega), T1.2.2.2 p (by omega), b_s_and hb, show (32 : Int32) = nI 32 from rfl, b_s_eq hb (by omega), nI_1]
      refine ⟨fun c => absurd c no, fun _ => ⟨hin, fun c => ⟨fun c => absurd c no, fun _ => ⟨hin, ?_⟩⟩, fun c v2 e2 => ?_⟩⟩
      · rw [t_s_h (by omega) c] at hq
        unfold t_k at hq
        rw [if_pos (by omega)] at hq
        exact hq v1 e1 ⟨fun _ _ => rfl, fun _ _ => rfl⟩
      · rw [t_s_n (by omega) c] at hq
        have a2 : m_at v1 v2 := by rw [e2]; exact ⟨fun b b1 => by rw [z_u_ne b1], fun j hj => by rw [z_un (Or.inr hj)]⟩
        refine ih (p + 1) v2 (by omega) (fun v3 e3 a3 => hq v3 e3 ⟨fun b b1 => (a3.1 b b1).trans (a2.1 b b1), fun j hj => (a3.2 j hj).trans (a2.2 j hj)⟩) (a2.T T1) (by rw [e2, z_ue rfl rfl])
  exact key (L - p) p v (by omega) h hT hp
/-- whether a sign stands next -/
def t_is (τ : Nat → Nat) (L p c : Nat) : Prop := t_s τ L p < L ∧ τ (t_s τ L p) = c
theorem t_k_eq {τ : Nat → Nat} {L p c : Nat} (hτ : ∀ i, τ i < 256) (hc : c < 256) : t_k τ L (t_s τ L p) = nI c ↔ t_is τ L p c := by
  unfold t_k t_is
  have hb := hτ (t_s τ L p)
  by_cases z : t_s τ L p < L
  · rw [if_pos z, nI_eq (by omega) (by omega)]
    exact ⟨fun e => ⟨z, e⟩, fun e => e.2⟩
  · rw [if_neg z]
    exact ⟨fun e => absurd (by rw [← e]; decide) (nI_pos (n := c) (by omega)), fun e => absurd e.1 z⟩
theorem sp_X6_readSign (hd : 1 ≤ d) (hL : z_L S) (hT : c_Tp v τ L) (hτ : ∀ i, τ i < 256) (hp : v 141 12 = nI p) (hpL : p ≤ L) (hc : c < 256)
    (h1 : ∀ v1, t_is τ L p c → v1 141 12 = nI (t_s τ L p + 1) → c_at v v1 → Q (some (.int 1)) S v1)
    (h0 : ∀ v1, ¬ t_is τ L p c → v1 141 1 = 1 → v1 141 2 = nI (t_s τ L p) → c_ft v v1 → Q (some (.int 0)) S v1) : z_J G d mX6_readSign (0, [.ref 141, .int (nI c)], [], S, v) Q := by
  obtain ⟨d, rfl⟩ : ∃ e, d = e + 1 := ⟨d - 1, by omega⟩
  refine sg_X6_readSign_0 hL ?_
  refine sp_X6_signAhead hL hT hτ hp hpL (fun v1 e1 a1 => ⟨_, rfl, rfl, ?_⟩)
  rw [t_k_eq hτ hc, e1, nI_1]
  refine ⟨fun q v2 e2 => ?_, fun q => ?_⟩
  · exact h1 v2 q (by rw [e2, z_ue rfl rfl]) ⟨fun b b1 => by rw [e2, z_u_ne b1]; exact a1.1 b b1, fun j hj => by rw [e2, z_un (Or.inr hj)]; exact a1.2 j hj⟩
  · refine sg_X6_hasFault_0 hL (fun v2 e2 v3 e3 => ⟨_, rfl, rfl, rfl, ?_⟩)
    exact h0 v3 q (by rw [e3, z_un (by omega), e2, z_ue rfl rfl]) (by rw [e3, z_ue rfl rfl]) ⟨fun b b1 => by rw [e3, z_u_ne b1, e2, z_u_ne b1]; exact a1.1 b b1, fun j j1 j2 j3 => by rw [e3, z_un (Or.inr j3), e2, z_un (Or.inr j2)]; exact a1.2 j j1⟩
theorem sp_X11_sign (hd : 1 ≤ d) (hL : z_L S) (hT : m_Ts2 v τ L) (hp : v 223 19 = nI p) (hpL : p ≤ L) (hc : c < 256)
    (h1 : ∀ v1, t_is τ L p c → v1 223 19 = nI (t_s τ L p + 1) → m_at v v1 → Q (some (.int 1)) S v1)
    (h0 : ∀ v1, ¬ t_is τ L p c → v1 223 20 = 1 → v1 223 21 = nI (t_s τ L p) → m_ft v v1 → Q (some (.int 0)) S v1) : z_J G d mX11_sign (0, [.ref 223, .int (nI c)], [], S, v) Q := by
  obtain ⟨d, rfl⟩ : ∃ e, d = e + 1 := ⟨d - 1, by omega⟩
  refine sg_X11_sign_0 hL ?_
  refine sp_X11_peek hL hT hp hpL (fun v1 e1 a1 => ⟨_, rfl, rfl, ?_⟩)
  rw [t_k_eq hT.2.2.1 hc, e1, nI_1]
  refine ⟨fun q v2 e2 => ?_, fun q => ?_⟩
  · exact h1 v2 q (by rw [e2, z_ue rfl rfl]) ⟨fun b b1 => by rw [e2, z_u_ne b1]; exact a1.1 b b1, fun j hj => by rw [e2, z_un (Or.inr hj)]; exact a1.2 j hj⟩
  · refine sg_X11_bad_0 hL (fun v2 e2 v3 e3 => ⟨_, rfl, rfl, rfl, ?_⟩)
    exact h0 v3 q (by rw [e3, z_un (by omega), e2, z_ue rfl rfl]) (by rw [e3, z_ue rfl rfl]) ⟨fun b b1 => by rw [e3, z_u_ne b1, e2, z_u_ne b1]; exact a1.1 b b1, fun j j1 j2 j3 => by rw [e3, z_un (Or.inr j3), e2, z_un (Or.inr j2)]; exact a1.2 j j1⟩
end SC
