/-! the network of places at moments, its cuts, and what a flow has to do with them -/
/-- what g says of every step of the network, summed: lines first, then the waiting -/
def qs_tot (h last : Nat) (F T W D : Nat → Nat) (g : Nat → Nat → Nat → Int) : Int :=
  qs_i (fun i => qs_i (fun m => g (13 * F i + m) (13 * T i + m + D i) (W i)) (last + 1 - D i)) h
    + qs_i (fun p => qs_i (fun m => g (13 * p + m) (13 * p + m + 1) 100000) last) 5
/-- the lines are as they may be -/
def qs_ok (h : Nat) (F T W D : Nat → Nat) : Prop := ∀ i, i < h → F i < 5 ∧ T i < 5 ∧ W i ≤ 5 ∧ D i ≤ 3
/-- steps 0 to n - 1, each with start, end and room, are the network's -/
def qs_Gr (h last : Nat) (F T W D : Nat → Nat) (n : Nat) (s d c : Nat → Nat) : Prop :=
  ∀ g : Nat → Nat → Nat → Int, qs_i (fun e => g (s e) (d e) (c e)) n = qs_tot h last F T W D g
theorem qs_tcg {h last : Nat} {F T W D : Nat → Nat} {g g' : Nat → Nat → Nat → Int} (hok : qs_ok h F T W D) (hl : last ≤ 12)
    (H : ∀ p q m k c, p < 5 → q < 5 → m ≤ last → k ≤ last → g (13 * p + m) (13 * q + k) c = g' (13 * p + m) (13 * q + k) c) :
    qs_tot h last F T W D g = qs_tot h last F T W D g' := by
  unfold qs_tot
  congr 1
  · refine qs_cg h (fun i hi => qs_cg _ (fun m hm => ?_))
    obtain ⟨h1, h2, h3, h4⟩ := hok i hi
    have := H (F i) (T i) m (m + D i) (W i) h1 h2 (by omega) (by omega)
    rw [Nat.add_assoc]
    exact this
  · refine qs_cg 5 (fun p hp => qs_cg _ (fun m hm => ?_))
    have := H p p m (m + 1) 100000 hp hp (by omega) (by omega)
    rw [Nat.add_assoc (13 * p) m 1]
    exact this
theorem qs_tnn {h last : Nat} {F T W D : Nat → Nat} {g : Nat → Nat → Nat → Int} (H : ∀ a b c, 0 ≤ g a b c) :
    0 ≤ qs_i (fun i => qs_i (fun m => g (13 * F i + m) (13 * T i + m + D i) (W i)) (last + 1 - D i)) h :=
  qs_nn h (fun _ _ => qs_nn _ (fun _ _ => H _ _ _))
/-- every step of the network has what all its lines and all its waiting have -/
theorem qs_all {h last : Nat} {F T W D : Nat → Nat} {n : Nat} {s d c : Nat → Nat} (G : qs_Gr h last F T W D n s d c) (P : Nat → Nat → Nat → Bool)
    (hl : ∀ i m, i < h → m < last + 1 - D i → P (13 * F i + m) (13 * T i + m + D i) (W i) = true)
    (hw : ∀ p m, p < 5 → m < last → P (13 * p + m) (13 * p + m + 1) 100000 = true) :
    ∀ e, e < n → P (s e) (d e) (c e) = true := by
  intro e he
  have h0 := G (fun a b c => if P a b c = true then 0 else 1)
  have h1 : qs_tot h last F T W D (fun a b c => if P a b c = true then 0 else 1) = 0 := by
    unfold qs_tot
    have e1 : qs_i (fun i => qs_i (fun m => if P (13 * F i + m) (13 * T i + m + D i) (W i) = true then (0 : Int) else 1) (last + 1 - D i)) h = 0 :=
      qs_z0 h (fun i hi => qs_z0 _ (fun m hm => if_pos (hl i m hi hm)))
    have e2 : qs_i (fun p => qs_i (fun m => if P (13 * p + m) (13 * p + m + 1) 100000 = true then (0 : Int) else 1) last) 5 = 0 :=
      qs_z0 5 (fun p hp => qs_z0 _ (fun m hm => if_pos (hw p m hp hm)))
    rw [e1, e2]
    rfl
  have h2 : qs_i (fun e => if P (s e) (d e) (c e) = true then (0 : Int) else 1) n = 0 := h0.trans h1
  have hnn : ∀ j, j < n → (0 : Int) ≤ (if P (s j) (d j) (c j) = true then (0 : Int) else 1) := by
    intro j _
    by_cases z : P (s j) (d j) (c j) = true
    · rw [if_pos z]
      exact Int.le_refl 0
    · rw [if_neg z]
      decide
  have h3 := qs_zz (k := e) n hnn h2 he
  by_cases z : P (s e) (d e) (c e) = true
  · exact z
  · have h4 : (if P (s e) (d e) (c e) = true then (0 : Int) else 1) = 0 := h3
    rw [if_neg z] at h4
    exact absurd h4 (by decide)
theorem qs_ends {h last : Nat} {F T W D : Nat → Nat} {n : Nat} {s d c : Nat → Nat} (G : qs_Gr h last F T W D n s d c) (hok : qs_ok h F T W D) (hl : last ≤ 12) :
    ∀ e, e < n → s e < 65 ∧ d e < 65 ∧ c e ≤ 100000 := by
  intro e he
  have h1 := qs_all G (fun a b c => decide (a < 65 ∧ b < 65 ∧ c ≤ 100000)) (fun i m hi hm => by
    obtain ⟨h1, h2, h3, h4⟩ := hok i hi
    exact decide_eq_true ⟨by omega, by omega, by omega⟩) (fun p m hp hm => decide_eq_true ⟨by omega, by omega, by omega⟩) e he
  exact of_decide_eq_true h1
/-- a step's room, if it leads out of R -/
def qs_ct (R : Nat → Bool) (a b c : Nat) : Int := if R a = true ∧ R b = false then (c : Int) else 0
def qs_ph (R : Nat → Bool) (v : Nat) : Int := if R v = true then 1 else 0
theorem qs_ct0 (R : Nat → Bool) (a b c : Nat) : 0 ≤ qs_ct R a b c := by
  unfold qs_ct
  by_cases z : R a = true ∧ R b = false
  · rw [if_pos z]; omega
  · rw [if_neg z]; exact Int.le_refl 0
/-- f is a flow of k from node 0 to goal -/
def qs_Fl (n : Nat) (s d : Nat → Nat) (f : Nat → Nat) (k : Int) (goal : Nat) : Prop :=
  ∀ φ : Nat → Int, qs_i (fun e => (f e : Int) * (φ (s e) - φ (d e))) n = k * (φ 0 - φ goal)
theorem qs_ph1 {R : Nat → Bool} {v : Nat} (h : R v = true) : qs_ph R v = 1 := if_pos h
theorem qs_ph0 {R : Nat → Bool} {v : Nat} (h : R v = false) : qs_ph R v = 0 := if_neg (by rw [h]; decide)
theorem qs_weak {n : Nat} {s d c f : Nat → Nat} {k : Int} {goal : Nat} {R : Nat → Bool} (hf : ∀ e, e < n → f e ≤ c e) (hφ : qs_Fl n s d f k goal)
    (R0 : R 0 = true) (Rg : R goal = false) : k ≤ qs_i (fun e => qs_ct R (s e) (d e) (c e)) n := by
  have h := hφ (qs_ph R)
  rw [qs_ph1 R0, qs_ph0 Rg] at h
  have h2 : qs_i (fun e => (f e : Int) * (qs_ph R (s e) - qs_ph R (d e))) n ≤ qs_i (fun e => qs_ct R (s e) (d e) (c e)) n := by
    refine qs_le n (fun e he => ?_)
    have h3 := hf e he
    cases hs : R (s e) with
    | false =>
      have h4 := qs_ct0 R (s e) (d e) (c e)
      rw [qs_ph0 hs]
      cases hd : R (d e) with
      | false => rw [qs_ph0 hd]; omega
      | true => rw [qs_ph1 hd]; omega
    | true =>
      rw [qs_ph1 hs]
      cases hd : R (d e) with
      | false =>
        rw [qs_ph0 hd, show qs_ct R (s e) (d e) (c e) = (c e : Int) from if_pos ⟨hs, hd⟩]
        omega
      | true =>
        have h4 := qs_ct0 R (s e) (d e) (c e)
        rw [qs_ph1 hd]
        omega
  omega
theorem qs_full {n : Nat} {s d c f : Nat → Nat} {k : Int} {goal : Nat} {R : Nat → Bool} (hf : ∀ e, e < n → f e ≤ c e) (hφ : qs_Fl n s d f k goal)
    (R0 : R 0 = true) (Rg : R goal = false) (ho : ∀ e, e < n → R (s e) = true → R (d e) = false → ¬ f e < c e)
    (hb : ∀ e, e < n → R (d e) = true → R (s e) = false → ¬ 0 < f e) : k = qs_i (fun e => qs_ct R (s e) (d e) (c e)) n := by
  have h := hφ (qs_ph R)
  rw [qs_ph1 R0, qs_ph0 Rg] at h
  have h2 : qs_i (fun e => (f e : Int) * (qs_ph R (s e) - qs_ph R (d e))) n = qs_i (fun e => qs_ct R (s e) (d e) (c e)) n := by
    refine qs_cg n (fun e he => ?_)
    have h3 := hf e he
    cases hs : R (s e) with
    | false =>
      rw [qs_ph0 hs, show qs_ct R (s e) (d e) (c e) = 0 from if_neg (fun z => by rw [hs] at z; exact absurd z.1 (by decide))]
      cases hd : R (d e) with
      | false => rw [qs_ph0 hd]; omega
      | true =>
        have h5 := hb e he hd hs
        rw [qs_ph1 hd]; omega
    | true =>
      rw [qs_ph1 hs]
      cases hd : R (d e) with
      | false =>
        have h5 := ho e he hs hd
        rw [qs_ph0 hd, show qs_ct R (s e) (d e) (c e) = (c e : Int) from if_pos ⟨hs, hd⟩]
        omega
      | true =>
        rw [qs_ph1 hd, show qs_ct R (s e) (d e) (c e) = 0 from if_neg (fun z => by rw [hd] at z; exact absurd z.2 (by decide))]
        omega
  omega
/-- the cut that one moment for each place tells -/
def qs_cut (h : Nat) (F T W D : Nat → Nat) (σ : Nat → Nat) : Nat := qs_n (fun i => W i * (σ (T i) - D i - σ (F i))) h
def qs_R (σ : Nat → Nat) (v : Nat) : Bool := decide (σ (v / 13) ≤ v % 13)
theorem qs_Rat (σ : Nat → Nat) (p m : Nat) (hm : m < 13) : qs_R σ (13 * p + m) = decide (σ p ≤ m) := by
  unfold qs_R
  rw [show (13 * p + m) / 13 = p from by omega, show (13 * p + m) % 13 = m from by omega]
theorem qs_cutR {h last : Nat} {F T W D : Nat → Nat} (hok : qs_ok h F T W D) (hl : last ≤ 12) (σ : Nat → Nat) (hσ : ∀ p, p < 5 → σ p ≤ last + 1) :
    qs_tot h last F T W D (qs_ct (qs_R σ)) = (qs_cut h F T W D σ : Int) := by
  unfold qs_tot qs_cut
  have e2 : qs_i (fun p => qs_i (fun m => qs_ct (qs_R σ) (13 * p + m) (13 * p + m + 1) 100000) last) 5 = 0 := by
    refine qs_z0 5 (fun p hp => qs_z0 _ (fun m hm => if_neg (fun z => ?_)))
    have z1 := z.1
    have z2 := z.2
    rw [qs_Rat σ p m (by omega)] at z1
    rw [Nat.add_assoc, qs_Rat σ p (m + 1) (by omega)] at z2
    have z3 := of_decide_eq_true z1
    have z4 := of_decide_eq_false z2
    omega
  rw [e2, Int.add_zero, qs_ni]
  refine qs_cg h (fun i hi => ?_)
  obtain ⟨h1, h2, h3, h4⟩ := hok i hi
  have hT := hσ (T i) h2
  have e3 : qs_i (fun m => qs_ct (qs_R σ) (13 * F i + m) (13 * T i + m + D i) (W i)) (last + 1 - D i) = qs_i (fun m => if σ (F i) ≤ m ∧ m < σ (T i) - D i then (W i : Int) else 0) (last + 1 - D i) := by
    refine qs_cg _ (fun m hm => ?_)
    unfold qs_ct
    rw [Nat.add_assoc, qs_Rat σ (F i) m (by omega), qs_Rat σ (T i) (m + D i) (by omega)]
    by_cases z : σ (F i) ≤ m ∧ m < σ (T i) - D i
    · rw [if_pos z, if_pos ⟨decide_eq_true z.1, decide_eq_false (by omega)⟩]
    · rw [if_neg z, if_neg (fun y => z ⟨of_decide_eq_true y.1, by have := of_decide_eq_false y.2; omega⟩)]
  rw [e3, qs_iv _ _ _ _ (by omega)]
  exact (Int.natCast_mul _ _).symm
/-- a row of yes and no that stays yes begins at one place -/
theorem qs_beg (Q : Nat → Bool) (N : Nat) (H : ∀ m, m + 1 < N → Q m = true → Q (m + 1) = true) : ∃ k, k ≤ N ∧ ∀ m, m < N → (Q m = true ↔ k ≤ m) := by
  induction N with
  | zero => exact ⟨0, Nat.le_refl 0, fun m hm => absurd hm (by omega)⟩
  | succ N ih =>
    obtain ⟨k, hk, h⟩ := ih (fun m hm => H m (by omega))
    by_cases hN : Q N = true
    · refine ⟨k, by omega, fun m hm => ?_⟩
      by_cases e : m = N
      · rw [e]; exact ⟨fun _ => hk, fun _ => hN⟩
      · exact h m (by omega)
    · refine ⟨N + 1, Nat.le_refl _, fun m hm => ⟨fun z => ?_, fun z => absurd z (by omega)⟩⟩
      exfalso
      by_cases e : m = N
      · rw [e] at z; exact hN z
      · have h1 := (h m (by omega)).mp z
        have h2 := (h (N - 1) (by omega)).mpr (by omega)
        have h3 := H (N - 1) (by omega) h2
        rw [show N - 1 + 1 = N from by omega] at h3
        exact hN h3
/-- one moment for each of the places 1, 2, 3; place 0 from 0 on, place 4 from N on -/
def qs_sd (N a b c : Nat) (p : Nat) : Nat := if p = 0 then 0 else if p = 1 then a else if p = 2 then b else if p = 3 then c else N
theorem qs_sdle {N a b c : Nat} (ha : a ≤ N) (hb : b ≤ N) (hc : c ≤ N) (p : Nat) : qs_sd N a b c p ≤ N := by
  unfold qs_sd
  by_cases h0 : p = 0
  · rw [if_pos h0]; omega
  · rw [if_neg h0]
    by_cases h1 : p = 1
    · rw [if_pos h1]; exact ha
    · rw [if_neg h1]
      by_cases h2 : p = 2
      · rw [if_pos h2]; exact hb
      · rw [if_neg h2]
        by_cases h3 : p = 3
        · rw [if_pos h3]; exact hc
        · rw [if_neg h3]; exact Nat.le_refl N
/-- v is the least cut -/
def qs_Min (h : Nat) (F T W D : Nat → Nat) (N v : Nat) : Prop :=
  (∀ a b c, a ≤ N → b ≤ N → c ≤ N → v ≤ qs_cut h F T W D (qs_sd N a b c)) ∧ ∃ a b c, a ≤ N ∧ b ≤ N ∧ c ≤ N ∧ v = qs_cut h F T W D (qs_sd N a b c)
theorem qs_Min1 {h : Nat} {F T W D : Nat → Nat} {N v w : Nat} (hv : qs_Min h F T W D N v) (hw : qs_Min h F T W D N w) : v = w := by
  obtain ⟨v1, a, b, c, ha, hb, hc, e⟩ := hv
  obtain ⟨w1, a', b', c', ha', hb', hc', e'⟩ := hw
  have h1 := v1 a' b' c' ha' hb' hc'
  have h2 := w1 a b c ha hb hc
  omega
theorem qs_cutB {h : Nat} {F T W D : Nat → Nat} {N : Nat} (hok : qs_ok h F T W D) (hh : h ≤ 8) (hN : N ≤ 13) {σ : Nat → Nat} (hσ : ∀ p, σ p ≤ N) : qs_cut h F T W D σ ≤ 520 := by
  have h1 : qs_cut h F T W D σ ≤ h * 65 := by
    refine qs_nle h (fun i hi => ?_)
    obtain ⟨_, _, h3, _⟩ := hok i hi
    have h4 := hσ (T i)
    exact Nat.mul_le_mul (n₂ := 5) (m₂ := 13) h3 (by omega)
  omega
theorem qs_sdR {N a b c p : Nat} : qs_R (qs_sd N a b c) 0 = true := decide_eq_true (Nat.zero_le _)
/-- a flow of k with room left nowhere out of R: k is the least cut -/
theorem qs_mfmc {h last : Nat} {F T W D : Nat → Nat} {n : Nat} {s d c f : Nat → Nat} {k : Nat} {R : Nat → Bool} (G : qs_Gr h last F T W D n s d c) (hok : qs_ok h F T W D) (hh : h ≤ 8) (hl : last ≤ 12)
    (hf : ∀ e, e < n → f e ≤ c e) (hφ : qs_Fl n s d f k (52 + last)) (R0 : R 0 = true) (Rg : R (52 + last) = false)
    (ho : ∀ e, e < n → R (s e) = true → R (d e) = false → ¬ f e < c e) (hb : ∀ e, e < n → R (d e) = true → R (s e) = false → ¬ 0 < f e) (hk : k < 100000) :
    qs_Min h F T W D (last + 1) k := by
  constructor
  · intro a b c' ha hb' hc
    have hle : ∀ p, qs_sd (last + 1) a b c' p ≤ last + 1 := qs_sdle ha hb' hc
    have h1 := qs_weak (R := qs_R (qs_sd (last + 1) a b c')) hf hφ (decide_eq_true (Nat.zero_le _)) (by
      rw [show 52 + last = 13 * 4 + last from rfl, qs_Rat _ 4 last (by omega)]
      exact decide_eq_false (by show ¬ last + 1 ≤ last; omega))
    rw [G (qs_ct (qs_R (qs_sd (last + 1) a b c'))), qs_cutR hok hl _ (fun p _ => hle p)] at h1
    omega
  · have h1 := qs_full hf hφ R0 Rg ho hb
    rw [G (qs_ct R)] at h1
    have hup : ∀ p m, p < 5 → m < last → R (13 * p + m) = true → R (13 * p + (m + 1)) = true := by
      intro p m hp hm hR
      cases hR' : R (13 * p + (m + 1)) with
      | true => rfl
      | false =>
        exfalso
        have h2 := qs_tnn (h := h) (last := last) (F := F) (T := T) (W := W) (D := D) (g := qs_ct R) (qs_ct0 R)
        have h3 : qs_i (fun m => qs_ct R (13 * p + m) (13 * p + m + 1) 100000) last ≤ qs_i (fun p => qs_i (fun m => qs_ct R (13 * p + m) (13 * p + m + 1) 100000) last) 5 :=
          qs_g1 (t := fun p => qs_i (fun m => qs_ct R (13 * p + m) (13 * p + m + 1) 100000) last) 5 (fun _ _ => qs_nn _ (fun _ _ => qs_ct0 R _ _ _)) hp
        have h4 : qs_ct R (13 * p + m) (13 * p + m + 1) 100000 ≤ qs_i (fun m => qs_ct R (13 * p + m) (13 * p + m + 1) 100000) last :=
          qs_g1 (t := fun m => qs_ct R (13 * p + m) (13 * p + m + 1) 100000) last (fun _ _ => qs_ct0 R _ _ _) hm
        have h5 : qs_ct R (13 * p + m) (13 * p + m + 1) 100000 = ((100000 : Nat) : Int) := if_pos ⟨hR, hR'⟩
        unfold qs_tot at h1
        omega
    have hex : ∀ p, ∃ k, p < 5 → (k ≤ last + 1 ∧ ∀ m, m < last + 1 → (R (13 * p + m) = true ↔ k ≤ m)) := by
      intro p
      by_cases hp : p < 5
      · obtain ⟨k, h2, h3⟩ := qs_beg (fun m => R (13 * p + m)) (last + 1) (fun m hm hQ => hup p m hp (by omega) hQ)
        exact ⟨k, fun _ => ⟨h2, h3⟩⟩
      · exact ⟨0, fun z => absurd z hp⟩
    obtain ⟨σ, hσ⟩ := Classical.axiomOfChoice hex
    have s0 : σ 0 = 0 := by
      have h2 := ((hσ 0 (by decide)).2 0 (by omega)).mp R0
      omega
    have s4 : σ 4 = last + 1 := by
      have h2 := (hσ 4 (by decide)).1
      have h3 := (hσ 4 (by decide)).2 last (by omega)
      have h4 : ¬ R (13 * 4 + last) = true := by
        rw [show 13 * 4 + last = 52 + last from rfl, Rg]
        decide
      have h5 : ¬ σ 4 ≤ last := fun z => h4 (h3.mpr z)
      omega
    have e1 : qs_tot h last F T W D (qs_ct R) = qs_tot h last F T W D (qs_ct (qs_R (qs_sd (last + 1) (σ 1) (σ 2) (σ 3)))) := by
      have key : ∀ p m, p < 5 → m ≤ last → R (13 * p + m) = qs_R (qs_sd (last + 1) (σ 1) (σ 2) (σ 3)) (13 * p + m) := by
        intro p m hp hm
        have e2 : qs_sd (last + 1) (σ 1) (σ 2) (σ 3) p = σ p := by
          rcases (show p = 0 ∨ p = 1 ∨ p = 2 ∨ p = 3 ∨ p = 4 from by omega) with rfl | rfl | rfl | rfl | rfl
          · exact s0.symm
          · rfl
          · rfl
          · rfl
          · exact s4.symm
        rw [qs_Rat _ p m (by omega), e2]
        have h2 := (hσ p hp).2 m (by omega)
        by_cases z : σ p ≤ m
        · rw [decide_eq_true z]; exact h2.mpr z
        · rw [decide_eq_false z]
          cases y : R (13 * p + m) with
          | false => rfl
          | true => exact absurd (h2.mp y) z
      refine qs_tcg hok hl (fun p q m k c hp hq hm hk => ?_)
      unfold qs_ct
      rw [key p m hp hm, key q k hq hk]
    have hle : ∀ p, qs_sd (last + 1) (σ 1) (σ 2) (σ 3) p ≤ last + 1 := qs_sdle (hσ 1 (by decide)).1 (hσ 2 (by decide)).1 (hσ 3 (by decide)).1
    refine ⟨σ 1, σ 2, σ 3, (hσ 1 (by decide)).1, (hσ 2 (by decide)).1, (hσ 3 (by decide)).1, ?_⟩
    rw [e1, qs_cutR hok hl _ (fun p _ => hle p)] at h1
    omega
/-- no flow is greater than 520 -/
theorem qs_520 {h last : Nat} {F T W D : Nat → Nat} {n : Nat} {s d c f : Nat → Nat} {k : Nat} (G : qs_Gr h last F T W D n s d c) (hok : qs_ok h F T W D) (hh : h ≤ 8) (hl : last ≤ 12)
    (hf : ∀ e, e < n → f e ≤ c e) (hφ : qs_Fl n s d f k (52 + last)) : k ≤ 520 := by
  have hle : ∀ p, qs_sd (last + 1) 0 0 0 p ≤ last + 1 := qs_sdle (by omega) (by omega) (by omega)
  have h1 := qs_weak (R := qs_R (qs_sd (last + 1) 0 0 0)) hf hφ (decide_eq_true (Nat.zero_le _)) (by
    rw [show 52 + last = 13 * 4 + last from rfl, qs_Rat _ 4 last (by omega)]
    exact decide_eq_false (by show ¬ last + 1 ≤ last; omega))
  rw [G (qs_ct (qs_R (qs_sd (last + 1) 0 0 0))), qs_cutR hok hl _ (fun p _ => hle p)] at h1
  have h2 := qs_cutB (N := last + 1) hok hh (by omega) hle
  omega
