/-! building the network; the least of the cuts, one tried after the other; the first moment -/
def qb_B (S E R L : Nat → Int32) (n : Nat) (G : (Nat → Nat → Nat → Int) → Int) : Prop :=
  ∃ s d c : Nat → Nat, (∀ e, e < n → S e = nI (s e) ∧ E e = nI (d e) ∧ R e = nI (c e) ∧ L e = 0) ∧ ∀ g : Nat → Nat → Nat → Int, qs_i (fun e => g (s e) (d e) (c e)) n = G g
theorem qb_0 {S E R L : Nat → Int32} {G : (Nat → Nat → Nat → Int) → Int} (hG : ∀ g, G g = 0) : qb_B S E R L 0 G :=
  ⟨fun _ => 0, fun _ => 0, fun _ => 0, fun e he => absurd he (by omega), fun g => (hG g).symm⟩
theorem qb_cg {S E R L : Nat → Int32} {n : Nat} {G G' : (Nat → Nat → Nat → Int) → Int} (h : qb_B S E R L n G) (hG : ∀ g, G' g = G g) : qb_B S E R L n G' := by
  obtain ⟨s, d, c, h1, h2⟩ := h
  exact ⟨s, d, c, h1, fun g => (h2 g).trans (hG g).symm⟩
theorem qb_push {S E R L : Nat → Int32} {n : Nat} {G G' : (Nat → Nat → Nat → Int) → Int} (h : qb_B S E R L n G) (x y z : Nat) (hG : ∀ g, G' g = G g + g x y z) :
    qb_B (upd S n (nI x)) (upd E n (nI y)) (upd R n (nI z)) (upd L n 0) (n + 1) G' := by
  obtain ⟨s, d, c, h1, h2⟩ := h
  refine ⟨qr_u s n x, qr_u d n y, qr_u c n z, fun e he => ?_, fun g => ?_⟩
  · by_cases q : e = n
    · subst q
      exact ⟨pk_us.trans (congrArg nI qr_us).symm, pk_us.trans (congrArg nI qr_us).symm, pk_us.trans (congrArg nI qr_us).symm, pk_us⟩
    · obtain ⟨a1, a2, a3, a4⟩ := h1 e (by omega)
      exact ⟨(pk_un q).trans (a1.trans (congrArg nI (qr_un q)).symm), (pk_un q).trans (a2.trans (congrArg nI (qr_un q)).symm), (pk_un q).trans (a3.trans (congrArg nI (qr_un q)).symm), (pk_un q).trans a4⟩
  · have e1 : qs_i (fun e => g (qr_u s n x e) (qr_u d n y e) (qr_u c n z e)) n = qs_i (fun e => g (s e) (d e) (c e)) n := by
      refine qs_cg n (fun e he => ?_)
      have q : e ≠ n := by omega
      show g (qr_u s n x e) (qr_u d n y e) (qr_u c n z e) = g (s e) (d e) (c e)
      rw [qr_un q, qr_un q, qr_un q]
    have e2 : g (qr_u s n x n) (qr_u d n y n) (qr_u c n z n) = g x y z := by rw [qr_us, qr_us, qr_us]
    have e3 := hG g
    have e4 := h2 g
    rw [qs_is, e1, e2, e3, e4]
/-- the lines of the network, one after the other -/
def qb_l (last : Nat) (F T W D : Nat → Nat) (g : Nat → Nat → Nat → Int) (i : Nat) : Int := qs_i (fun m => g (13 * F i + m) (13 * T i + m + D i) (W i)) (last + 1 - D i)
def qb_w (last : Nat) (g : Nat → Nat → Nat → Int) (p : Nat) : Int := qs_i (fun m => g (13 * p + m) (13 * p + m + 1) 100000) last
def qb_GL (last : Nat) (F T W D : Nat → Nat) (i m : Nat) (g : Nat → Nat → Nat → Int) : Int :=
  qs_i (qb_l last F T W D g) i + qs_i (fun m => g (13 * F i + m) (13 * T i + m + D i) (W i)) m
def qb_GW (h last : Nat) (F T W D : Nat → Nat) (p m : Nat) (g : Nat → Nat → Nat → Int) : Int :=
  qs_i (qb_l last F T W D g) h + qs_i (qb_w last g) p + qs_i (fun m => g (13 * p + m) (13 * p + m + 1) 100000) m
theorem qb_GL0 (last : Nat) (F T W D : Nat → Nat) (g : Nat → Nat → Nat → Int) : qb_GL last F T W D 0 0 g = 0 := rfl
theorem qb_GLs (last : Nat) (F T W D : Nat → Nat) (i m : Nat) (g : Nat → Nat → Nat → Int) : qb_GL last F T W D i (m + 1) g = qb_GL last F T W D i m g + g (13 * F i + m) (13 * T i + m + D i) (W i) := by
  unfold qb_GL
  rw [qs_is]
  omega
theorem qb_GLn (last : Nat) (F T W D : Nat → Nat) (i : Nat) (g : Nat → Nat → Nat → Int) : qb_GL last F T W D (i + 1) 0 g = qb_GL last F T W D i (last + 1 - D i) g := by
  show qs_i (qb_l last F T W D g) i + qb_l last F T W D g i + 0 = _
  rw [Int.add_zero]
  rfl
theorem qb_GLW (h last : Nat) (F T W D : Nat → Nat) (g : Nat → Nat → Nat → Int) : qb_GW h last F T W D 0 0 g = qb_GL last F T W D h 0 g := by
  show qs_i (qb_l last F T W D g) h + 0 + 0 = qs_i (qb_l last F T W D g) h + 0
  omega
theorem qb_GWs (h last : Nat) (F T W D : Nat → Nat) (p m : Nat) (g : Nat → Nat → Nat → Int) : qb_GW h last F T W D p (m + 1) g = qb_GW h last F T W D p m g + g (13 * p + m) (13 * p + m + 1) 100000 := by
  unfold qb_GW
  rw [qs_is (fun m => g (13 * p + m) (13 * p + m + 1) 100000)]
  omega
theorem qb_GWn (h last : Nat) (F T W D : Nat → Nat) (p : Nat) (g : Nat → Nat → Nat → Int) : qb_GW h last F T W D (p + 1) 0 g = qb_GW h last F T W D p last g := by
  show qs_i (qb_l last F T W D g) h + (qs_i (qb_w last g) p + qb_w last g p) + 0 = qs_i (qb_l last F T W D g) h + qs_i (qb_w last g) p + qb_w last g p
  omega
theorem qb_Gend (h last : Nat) (F T W D : Nat → Nat) (g : Nat → Nat → Nat → Int) : qb_GW h last F T W D 5 0 g = qs_tot h last F T W D g := by
  show qs_tot h last F T W D g + 0 = _
  exact Int.add_zero _
/-- what build leaves -/
theorem qb_end {S E R L : Nat → Int32} {n h last : Nat} {F T W D : Nat → Nat} (H : qb_B S E R L n (qb_GW h last F T W D 5 0)) :
    ∃ s d c : Nat → Nat, (∀ e, e < n → S e = nI (s e) ∧ E e = nI (d e) ∧ R e = nI (c e) ∧ L e = 0) ∧ qs_Gr h last F T W D n s d c := by
  obtain ⟨s, d, c, h1, h2⟩ := H
  exact ⟨s, d, c, h1, fun g => (h2 g).trans (qb_Gend h last F T W D g)⟩
theorem qb_Fl0 {n : Nat} {s d : Nat → Nat} {goal : Nat} : qs_Fl n s d (fun _ => 0) 0 goal := by
  intro φ
  rw [qs_z0 n (fun e _ => by show ((0 : Nat) : Int) * (φ (s e) - φ (d e)) = 0; exact Int.zero_mul _), Int.zero_mul]
/-! the component's cuts -/
def qx_L (K : Nat → Nat → Nat → Nat) (N a b c v : Nat) : Prop :=
  v ≤ 1000000 ∧ (v = 1000000 ∨ ∃ a' b' c', a' ≤ N ∧ b' ≤ N ∧ c' ≤ N ∧ v = K a' b' c') ∧
  ∀ a' b' c', a' ≤ N → b' ≤ N → c' ≤ N → (a' < a ∨ (a' = a ∧ (b' < b ∨ (b' = b ∧ c' < c)))) → v ≤ K a' b' c'
theorem qx_L0 (K : Nat → Nat → Nat → Nat) (N : Nat) : qx_L K N 0 0 0 1000000 :=
  ⟨Nat.le_refl _, Or.inl rfl, fun a' b' c' _ _ _ h => by omega⟩
theorem qx_Lc {K : Nat → Nat → Nat → Nat} {N a b c v w : Nat} (h : qx_L K N a b c v) (ha : a ≤ N) (hb : b ≤ N) (hc : c ≤ N) (hw : w = K a b c) : qx_L K N a b (c + 1) (if w < v then w else v) := by
  obtain ⟨h1, h2, h3⟩ := h
  by_cases z : w < v
  · rw [if_pos z]
    refine ⟨by omega, Or.inr ⟨a, b, c, ha, hb, hc, hw⟩, fun a' b' c' ha' hb' hc' hl => ?_⟩
    by_cases y : a' = a ∧ b' = b ∧ c' = c
    · obtain ⟨rfl, rfl, rfl⟩ := y
      omega
    · have := h3 a' b' c' ha' hb' hc' (by omega)
      omega
  · rw [if_neg z]
    refine ⟨h1, h2, fun a' b' c' ha' hb' hc' hl => ?_⟩
    by_cases y : a' = a ∧ b' = b ∧ c' = c
    · obtain ⟨rfl, rfl, rfl⟩ := y
      omega
    · exact h3 a' b' c' ha' hb' hc' (by omega)
theorem qx_Lb {K : Nat → Nat → Nat → Nat} {N a b v : Nat} (h : qx_L K N a b (N + 1) v) : qx_L K N a (b + 1) 0 v :=
  ⟨h.1, h.2.1, fun a' b' c' ha hb hc hl => h.2.2 a' b' c' ha hb hc (by omega)⟩
theorem qx_La {K : Nat → Nat → Nat → Nat} {N a v : Nat} (h : qx_L K N a (N + 1) 0 v) : qx_L K N (a + 1) 0 0 v :=
  ⟨h.1, h.2.1, fun a' b' c' ha hb hc hl => h.2.2 a' b' c' ha hb hc (by omega)⟩
theorem qx_Lend {h : Nat} {F T W D : Nat → Nat} {N v : Nat} (hL : qx_L (fun a b c => qs_cut h F T W D (qs_sd N a b c)) N (N + 1) 0 0 v) (hok : qs_ok h F T W D) (hh : h ≤ 8) (hN : N ≤ 13) : qs_Min h F T W D N v := by
  obtain ⟨h1, h2, h3⟩ := hL
  refine ⟨fun a b c ha hb hc => h3 a b c ha hb hc (Or.inl (by omega)), ?_⟩
  rcases h2 with h2 | h2
  · exfalso
    have h4 : v ≤ qs_cut h F T W D (qs_sd N 0 0 0) := h3 0 0 0 (by omega) (by omega) (by omega) (Or.inl (by omega))
    have h5 := qs_cutB (σ := qs_sd N 0 0 0) hok hh hN (qs_sdle (by omega) (by omega) (by omega))
    omega
  · exact h2
theorem qx_ti {a t b : Nat} (ha : a < 1000) (ht : t < 1000) (hb : b < 1000) : (nI a - nI t - nI b).toInt = (a : Int) - t - b := by
  rw [Int32.toInt_sub, pk_sub_toInt (by omega) (by omega), nI_toInt (by omega)]
  exact Int.bmod_eq_of_le (by omega) (by omega)
theorem qx_le {a t b : Nat} (ha : a < 1000) (ht : t < 1000) (hb : b < 1000) : (nI a - nI t - nI b ≤ 0) ↔ a - t - b = 0 := by
  rw [Int32.le_iff_toInt_le, qx_ti ha ht hb, show (0 : Int32).toInt = 0 from by decide]
  omega
theorem qx_eq {a t b : Nat} (h : ¬ a - t - b = 0) : nI a - nI t - nI b = nI (a - t - b) := by
  rw [pk_sub (by omega), pk_sub (by omega)]
/-! the least cut as a number, and the first moment with so much -/
theorem qm_ex (h : Nat) (F T W D : Nat → Nat) (N : Nat) : ∃ v, qs_Min h F T W D N v := by
  obtain ⟨v, ⟨a, b, c, ha, hb, hc, e⟩, hl⟩ := pk_least (fun v => ∃ a b c, a ≤ N ∧ b ≤ N ∧ c ≤ N ∧ v = qs_cut h F T W D (qs_sd N a b c)) ⟨_, 0, 0, 0, Nat.zero_le _, Nat.zero_le _, Nat.zero_le _, rfl⟩
  refine ⟨v, fun a' b' c' ha' hb' hc' => ?_, a, b, c, ha, hb, hc, e⟩
  by_cases z : v ≤ qs_cut h F T W D (qs_sd N a' b' c')
  · exact z
  · exact absurd ⟨a', b', c', ha', hb', hc', rfl⟩ (hl _ (by omega))
noncomputable def qm_v (h : Nat) (F T W D : Nat → Nat) (N : Nat) : Nat := Classical.choose (qm_ex h F T W D N)
theorem qm_is {h : Nat} {F T W D : Nat → Nat} {N v : Nat} (H : qs_Min h F T W D N v) : v = qm_v h F T W D N :=
  qs_Min1 H (Classical.choose_spec (qm_ex h F T W D N))
def qm_f (val : Nat → Nat) (amt : Int32) : Nat → Nat → Int32
  | 0, _ => -1
  | k + 1, t => if nI (val t) < amt then qm_f val amt k (t + 1) else nI t
theorem qm_f1 {val : Nat → Nat} {amt : Int32} {k t : Nat} (h : nI (val t) < amt) : qm_f val amt (k + 1) t = qm_f val amt k (t + 1) := if_pos h
theorem qm_f0 {val : Nat → Nat} {amt : Int32} {k t : Nat} (h : ¬ nI (val t) < amt) : qm_f val amt (k + 1) t = nI t := if_neg h
