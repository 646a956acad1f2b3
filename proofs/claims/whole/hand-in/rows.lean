section
theorem pk_us {f : Nat → Int32} {k : Nat} {x : Int32} : upd f k x k = x := if_pos rfl
theorem pk_un {f : Nat → Int32} {k j : Nat} {x : Int32} (h : j ≠ k) : upd f k x j = f j := if_neg h
theorem pk_sub {a b : Nat} (h : b ≤ a) : nI a - nI b = nI (a - b) := by
  obtain ⟨c, rfl⟩ : ∃ c, a = c + b := ⟨a - b, by omega⟩
  rw [← nI_add, Int32.add_sub_cancel, Nat.add_sub_cancel]
theorem pk_m1 (n : Nat) : nI (n + 1) + (-1) = nI n := by
  rw [← nI_1, Int32.add_assoc, show (1 : Int32) + (-1) = 0 from rfl, Int32.add_zero]
theorem pk_mul (a b : Nat) : nI a * nI b = nI (a * b) := (Int32.ofNat_mul a b).symm
theorem pk_sub_toInt {a b : Nat} (ha : a < 2 ^ 30) (hb : b < 2 ^ 30) : (nI a - nI b).toInt = (a : Int) - b := by
  rw [Int32.toInt_sub, nI_toInt (by omega), nI_toInt (by omega)]
  exact Int.bmod_eq_of_le (by omega) (by omega)
theorem pk_sneg {a b : Nat} (hb : b < 2 ^ 30) (h : a < b) : nI a - nI b < 0 := by
  rw [Int32.lt_iff_toInt_lt, pk_sub_toInt (by omega) hb, show (0 : Int32).toInt = 0 from by decide]
  omega
theorem pk_ix (x : Int32) {n : Nat} (hn : n < 2 ^ 31) : x < 0 ∨ nI n ≤ x ∨ ∃ j : Nat, j < n ∧ x = nI j := by
  by_cases h : x < 0
  · exact Or.inl h
  · obtain ⟨j, hj, rfl⟩ := nI_of h
    by_cases h2 : j < n
    · exact Or.inr (Or.inr ⟨j, h2, rfl⟩)
    · exact Or.inr (Or.inl (nI_le (by omega) hj))
theorem pk_le {x y : Int32} {A B : Prop} (a b : Nat) (f : a ≤ b → A) (g : b < a → B) (hx : x = nI a := by rfl) (hy : y = nI b := by rfl) (ha : a < 2 ^ 31 := by omega) (hb : b < 2 ^ 31 := by omega) : (x ≤ y → A) ∧ (¬ x ≤ y → B) := by
  subst hx hy
  rw [nI_leI ha hb]
  exact ⟨f, fun z => g (by omega)⟩
theorem pk_lt {x y : Int32} {A B : Prop} (a b : Nat) (f : a < b → A) (g : b ≤ a → B) (hx : x = nI a := by rfl) (hy : y = nI b := by rfl) (ha : a < 2 ^ 31 := by omega) (hb : b < 2 ^ 31 := by omega) : (x < y → A) ∧ (¬ x < y → B) := by
  subst hx hy
  rw [nI_ltI ha hb]
  exact ⟨f, fun z => g (by omega)⟩
theorem pk_eq {x y : Int32} {A B : Prop} (a b : Nat) (f : a = b → A) (g : a ≠ b → B) (hx : x = nI a := by rfl) (hy : y = nI b := by rfl) (ha : a < 2 ^ 31 := by omega) (hb : b < 2 ^ 31 := by omega) : (x = y → A) ∧ (¬ x = y → B) := by
  subst hx hy
  rw [nI_eq ha hb]
  exact ⟨f, g⟩
theorem pk_in {x : Int32} (n N : Nat) (h : n < N) (hx : x = nI n := by rfl) (hN : N < 2 ^ 31 := by omega) : vp_in x N := by
  subst hx
  exact vp_in_nI h hN
theorem pk_cl {x : Int32} (n : Nat) (hx : x = nI n := by rfl) (h : n < 2 ^ 31 := by omega) : x.toNatClampNeg = n := by
  subst hx
  exact nI_clamp h
theorem pk_loop {σ : Type} (W : Nat → Nat → σ → Prop) (I : Nat → σ → Prop) (e i0 : Nat) (s : σ) (hi : i0 ≤ e) (h0 : I i0 s) (hx : ∀ n s, I e s → W (n + 1) e s)
    (hs : ∀ n i s, i < e → I i s → (∀ s', I (i + 1) s' → W n (i + 1) s') → W (n + 1) i s) : ∃ n, W n i0 s :=
  ⟨e + 1, loop_i W I e hx hs (e + 1) i0 s hi (by omega) h0⟩
theorem pk_least (P : Nat → Prop) (h : ∃ k, P k) : ∃ k, P k ∧ ∀ j, j < k → ¬ P j := by
  obtain ⟨k, hk⟩ := h
  induction k using Nat.strongRecOn with
  | ind k ih =>
    by_cases e : ∃ j, j < k ∧ P j
    · obtain ⟨j, hj, pj⟩ := e
      exact ih j hj pj
    · exact ⟨k, hk, fun j hj pj => e ⟨j, hj, pj⟩⟩
theorem lp1 {A1 : Type} (W : Nat → A1 → Prop) (I : A1 → Prop) (μ : A1 → Nat) (hs : ∀ (n : Nat) (a1 : A1), I a1 → (∀ (b1 : A1), I b1 → μ b1 < μ a1 → W n b1) → W (n + 1) a1) (a1 : A1) (h : I a1) : ∃ n, W n a1 :=
  loop_m (σ := A1) (fun n s => W n s) (fun s => I s) (fun s => μ s) (fun n s hI hk => hs n s hI (fun b1 h9 hm => hk b1 h9 hm)) a1 h
theorem lp2 {A1 A2 : Type} (W : Nat → A1 → A2 → Prop) (I : A1 → A2 → Prop) (μ : A1 → A2 → Nat) (hs : ∀ (n : Nat) (a1 : A1) (a2 : A2), I a1 a2 → (∀ (b1 : A1) (b2 : A2), I b1 b2 → μ b1 b2 < μ a1 a2 → W n b1 b2) → W (n + 1) a1 a2) (a1 : A1) (a2 : A2) (h : I a1 a2) : ∃ n, W n a1 a2 :=
  loop_m (σ := A1 × A2) (fun n s => W n s.1 s.2) (fun s => I s.1 s.2) (fun s => μ s.1 s.2) (fun n s hI hk => hs n s.1 s.2 hI (fun b1 b2 h9 hm => hk (b1, b2) h9 hm)) (a1, a2) h
theorem lp3 {A1 A2 A3 : Type} (W : Nat → A1 → A2 → A3 → Prop) (I : A1 → A2 → A3 → Prop) (μ : A1 → A2 → A3 → Nat) (hs : ∀ (n : Nat) (a1 : A1) (a2 : A2) (a3 : A3), I a1 a2 a3 → (∀ (b1 : A1) (b2 : A2) (b3 : A3), I b1 b2 b3 → μ b1 b2 b3 < μ a1 a2 a3 → W n b1 b2 b3) → W (n + 1) a1 a2 a3) (a1 : A1) (a2 : A2) (a3 : A3) (h : I a1 a2 a3) : ∃ n, W n a1 a2 a3 :=
  loop_m (σ := A1 × A2 × A3) (fun n s => W n s.1 s.2.1 s.2.2) (fun s => I s.1 s.2.1 s.2.2) (fun s => μ s.1 s.2.1 s.2.2) (fun n s hI hk => hs n s.1 s.2.1 s.2.2 hI (fun b1 b2 b3 h9 hm => hk (b1, b2, b3) h9 hm)) (a1, a2, a3) h
theorem lp4 {A1 A2 A3 A4 : Type} (W : Nat → A1 → A2 → A3 → A4 → Prop) (I : A1 → A2 → A3 → A4 → Prop) (μ : A1 → A2 → A3 → A4 → Nat) (hs : ∀ (n : Nat) (a1 : A1) (a2 : A2) (a3 : A3) (a4 : A4), I a1 a2 a3 a4 → (∀ (b1 : A1) (b2 : A2) (b3 : A3) (b4 : A4), I b1 b2 b3 b4 → μ b1 b2 b3 b4 < μ a1 a2 a3 a4 → W n b1 b2 b3 b4) → W (n + 1) a1 a2 a3 a4) (a1 : A1) (a2 : A2) (a3 : A3) (a4 : A4) (h : I a1 a2 a3 a4) : ∃ n, W n a1 a2 a3 a4 :=
  loop_m (σ := A1 × A2 × A3 × A4) (fun n s => W n s.1 s.2.1 s.2.2.1 s.2.2.2) (fun s => I s.1 s.2.1 s.2.2.1 s.2.2.2) (fun s => μ s.1 s.2.1 s.2.2.1 s.2.2.2) (fun n s hI hk => hs n s.1 s.2.1 s.2.2.1 s.2.2.2 hI (fun b1 b2 b3 b4 h9 hm => hk (b1, b2, b3, b4) h9 hm)) (a1, a2, a3, a4) h
theorem lp5 {A1 A2 A3 A4 A5 : Type} (W : Nat → A1 → A2 → A3 → A4 → A5 → Prop) (I : A1 → A2 → A3 → A4 → A5 → Prop) (μ : A1 → A2 → A3 → A4 → A5 → Nat) (hs : ∀ (n : Nat) (a1 : A1) (a2 : A2) (a3 : A3) (a4 : A4) (a5 : A5), I a1 a2 a3 a4 a5 → (∀ (b1 : A1) (b2 : A2) (b3 : A3) (b4 : A4) (b5 : A5), I b1 b2 b3 b4 b5 → μ b1 b2 b3 b4 b5 < μ a1 a2 a3 a4 a5 → W n b1 b2 b3 b4 b5) → W (n + 1) a1 a2 a3 a4 a5) (a1 : A1) (a2 : A2) (a3 : A3) (a4 : A4) (a5 : A5) (h : I a1 a2 a3 a4 a5) : ∃ n, W n a1 a2 a3 a4 a5 :=
  loop_m (σ := A1 × A2 × A3 × A4 × A5) (fun n s => W n s.1 s.2.1 s.2.2.1 s.2.2.2.1 s.2.2.2.2) (fun s => I s.1 s.2.1 s.2.2.1 s.2.2.2.1 s.2.2.2.2) (fun s => μ s.1 s.2.1 s.2.2.1 s.2.2.2.1 s.2.2.2.2) (fun n s hI hk => hs n s.1 s.2.1 s.2.2.1 s.2.2.2.1 s.2.2.2.2 hI (fun b1 b2 b3 b4 b5 h9 hm => hk (b1, b2, b3, b4, b5) h9 hm)) (a1, a2, a3, a4, a5) h
theorem lp6 {A1 A2 A3 A4 A5 A6 : Type} (W : Nat → A1 → A2 → A3 → A4 → A5 → A6 → Prop) (I : A1 → A2 → A3 → A4 → A5 → A6 → Prop) (μ : A1 → A2 → A3 → A4 → A5 → A6 → Nat) (hs : ∀ (n : Nat) (a1 : A1) (a2 : A2) (a3 : A3) (a4 : A4) (a5 : A5) (a6 : A6), I a1 a2 a3 a4 a5 a6 → (∀ (b1 : A1) (b2 : A2) (b3 : A3) (b4 : A4) (b5 : A5) (b6 : A6), I b1 b2 b3 b4 b5 b6 → μ b1 b2 b3 b4 b5 b6 < μ a1 a2 a3 a4 a5 a6 → W n b1 b2 b3 b4 b5 b6) → W (n + 1) a1 a2 a3 a4 a5 a6) (a1 : A1) (a2 : A2) (a3 : A3) (a4 : A4) (a5 : A5) (a6 : A6) (h : I a1 a2 a3 a4 a5 a6) : ∃ n, W n a1 a2 a3 a4 a5 a6 :=
  loop_m (σ := A1 × A2 × A3 × A4 × A5 × A6) (fun n s => W n s.1 s.2.1 s.2.2.1 s.2.2.2.1 s.2.2.2.2.1 s.2.2.2.2.2) (fun s => I s.1 s.2.1 s.2.2.1 s.2.2.2.1 s.2.2.2.2.1 s.2.2.2.2.2) (fun s => μ s.1 s.2.1 s.2.2.1 s.2.2.2.1 s.2.2.2.2.1 s.2.2.2.2.2) (fun n s hI hk => hs n s.1 s.2.1 s.2.2.1 s.2.2.2.1 s.2.2.2.2.1 s.2.2.2.2.2 hI (fun b1 b2 b3 b4 b5 b6 h9 hm => hk (b1, b2, b3, b4, b5, b6) h9 hm)) (a1, a2, a3, a4, a5, a6) h
theorem lp7 {A1 A2 A3 A4 A5 A6 A7 : Type} (W : Nat → A1 → A2 → A3 → A4 → A5 → A6 → A7 → Prop) (I : A1 → A2 → A3 → A4 → A5 → A6 → A7 → Prop) (μ : A1 → A2 → A3 → A4 → A5 → A6 → A7 → Nat) (hs : ∀ (n : Nat) (a1 : A1) (a2 : A2) (a3 : A3) (a4 : A4) (a5 : A5) (a6 : A6) (a7 : A7), I a1 a2 a3 a4 a5 a6 a7 → (∀ (b1 : A1) (b2 : A2) (b3 : A3) (b4 : A4) (b5 : A5) (b6 : A6) (b7 : A7), I b1 b2 b3 b4 b5 b6 b7 → μ b1 b2 b3 b4 b5 b6 b7 < μ a1 a2 a3 a4 a5 a6 a7 → W n b1 b2 b3 b4 b5 b6 b7) → W (n + 1) a1 a2 a3 a4 a5 a6 a7) (a1 : A1) (a2 : A2) (a3 : A3) (a4 : A4) (a5 : A5) (a6 : A6) (a7 : A7) (h : I a1 a2 a3 a4 a5 a6 a7) : ∃ n, W n a1 a2 a3 a4 a5 a6 a7 :=
  loop_m (σ := A1 × A2 × A3 × A4 × A5 × A6 × A7) (fun n s => W n s.1 s.2.1 s.2.2.1 s.2.2.2.1 s.2.2.2.2.1 s.2.2.2.2.2.1 s.2.2.2.2.2.2) (fun s => I s.1 s.2.1 s.2.2.1 s.2.2.2.1 s.2.2.2.2.1 s.2.2.2.2.2.1 s.2.2.2.2.2.2) (fun s => μ s.1 s.2.1 s.2.2.1 s.2.2.2.1 s.2.2.2.2.1 s.2.2.2.2.2.1 s.2.2.2.2.2.2) (fun n s hI hk => hs n s.1 s.2.1 s.2.2.1 s.2.2.2.1 s.2.2.2.2.1 s.2.2.2.2.2.1 s.2.2.2.2.2.2 hI (fun b1 b2 b3 b4 b5 b6 b7 h9 hm => hk (b1, b2, b3, b4, b5, b6, b7) h9 hm)) (a1, a2, a3, a4, a5, a6, a7) h
theorem lp8 {A1 A2 A3 A4 A5 A6 A7 A8 : Type} (W : Nat → A1 → A2 → A3 → A4 → A5 → A6 → A7 → A8 → Prop) (I : A1 → A2 → A3 → A4 → A5 → A6 → A7 → A8 → Prop) (μ : A1 → A2 → A3 → A4 → A5 → A6 → A7 → A8 → Nat) (hs : ∀ (n : Nat) (a1 : A1) (a2 : A2) (a3 : A3) (a4 : A4) (a5 : A5) (a6 : A6) (a7 : A7) (a8 : A8), I a1 a2 a3 a4 a5 a6 a7 a8 → (∀ (b1 : A1) (b2 : A2) (b3 : A3) (b4 : A4) (b5 : A5) (b6 : A6) (b7 : A7) (b8 : A8), I b1 b2 b3 b4 b5 b6 b7 b8 → μ b1 b2 b3 b4 b5 b6 b7 b8 < μ a1 a2 a3 a4 a5 a6 a7 a8 → W n b1 b2 b3 b4 b5 b6 b7 b8) → W (n + 1) a1 a2 a3 a4 a5 a6 a7 a8) (a1 : A1) (a2 : A2) (a3 : A3) (a4 : A4) (a5 : A5) (a6 : A6) (a7 : A7) (a8 : A8) (h : I a1 a2 a3 a4 a5 a6 a7 a8) : ∃ n, W n a1 a2 a3 a4 a5 a6 a7 a8 :=
  loop_m (σ := A1 × A2 × A3 × A4 × A5 × A6 × A7 × A8) (fun n s => W n s.1 s.2.1 s.2.2.1 s.2.2.2.1 s.2.2.2.2.1 s.2.2.2.2.2.1 s.2.2.2.2.2.2.1 s.2.2.2.2.2.2.2) (fun s => I s.1 s.2.1 s.2.2.1 s.2.2.2.1 s.2.2.2.2.1 s.2.2.2.2.2.1 s.2.2.2.2.2.2.1 s.2.2.2.2.2.2.2) (fun s => μ s.1 s.2.1 s.2.2.1 s.2.2.2.1 s.2.2.2.2.1 s.2.2.2.2.2.1 s.2.2.2.2.2.2.1 s.2.2.2.2.2.2.2) (fun n s hI hk => hs n s.1 s.2.1 s.2.2.1 s.2.2.2.1 s.2.2.2.2.1 s.2.2.2.2.2.1 s.2.2.2.2.2.2.1 s.2.2.2.2.2.2.2 hI (fun b1 b2 b3 b4 b5 b6 b7 b8 h9 hm => hk (b1, b2, b3, b4, b5, b6, b7, b8) h9 hm)) (a1, a2, a3, a4, a5, a6, a7, a8) h
theorem lp9 {A1 A2 A3 A4 A5 A6 A7 A8 A9 : Type} (W : Nat → A1 → A2 → A3 → A4 → A5 → A6 → A7 → A8 → A9 → Prop) (I : A1 → A2 → A3 → A4 → A5 → A6 → A7 → A8 → A9 → Prop) (μ : A1 → A2 → A3 → A4 → A5 → A6 → A7 → A8 → A9 → Nat) (hs : ∀ (n : Nat) (a1 : A1) (a2 : A2) (a3 : A3) (a4 : A4) (a5 : A5) (a6 : A6) (a7 : A7) (a8 : A8) (a9 : A9), I a1 a2 a3 a4 a5 a6 a7 a8 a9 → (∀ (b1 : A1) (b2 : A2) (b3 : A3) (b4 : A4) (b5 : A5) (b6 : A6) (b7 : A7) (b8 : A8) (b9 : A9), I b1 b2 b3 b4 b5 b6 b7 b8 b9 → μ b1 b2 b3 b4 b5 b6 b7 b8 b9 < μ a1 a2 a3 a4 a5 a6 a7 a8 a9 → W n b1 b2 b3 b4 b5 b6 b7 b8 b9) → W (n + 1) a1 a2 a3 a4 a5 a6 a7 a8 a9) (a1 : A1) (a2 : A2) (a3 : A3) (a4 : A4) (a5 : A5) (a6 : A6) (a7 : A7) (a8 : A8) (a9 : A9) (h : I a1 a2 a3 a4 a5 a6 a7 a8 a9) : ∃ n, W n a1 a2 a3 a4 a5 a6 a7 a8 a9 :=
  loop_m (σ := A1 × A2 × A3 × A4 × A5 × A6 × A7 × A8 × A9) (fun n s => W n s.1 s.2.1 s.2.2.1 s.2.2.2.1 s.2.2.2.2.1 s.2.2.2.2.2.1 s.2.2.2.2.2.2.1 s.2.2.2.2.2.2.2.1 s.2.2.2.2.2.2.2.2) (fun s => I s.1 s.2.1 s.2.2.1 s.2.2.2.1 s.2.2.2.2.1 s.2.2.2.2.2.1 s.2.2.2.2.2.2.1 s.2.2.2.2.2.2.2.1 s.2.2.2.2.2.2.2.2) (fun s => μ s.1 s.2.1 s.2.2.1 s.2.2.2.1 s.2.2.2.2.1 s.2.2.2.2.2.1 s.2.2.2.2.2.2.1 s.2.2.2.2.2.2.2.1 s.2.2.2.2.2.2.2.2) (fun n s hI hk => hs n s.1 s.2.1 s.2.2.1 s.2.2.2.1 s.2.2.2.2.1 s.2.2.2.2.2.1 s.2.2.2.2.2.2.1 s.2.2.2.2.2.2.2.1 s.2.2.2.2.2.2.2.2 hI (fun b1 b2 b3 b4 b5 b6 b7 b8 b9 h9 hm => hk (b1, b2, b3, b4, b5, b6, b7, b8, b9) h9 hm)) (a1, a2, a3, a4, a5, a6, a7, a8, a9) h
theorem lp10 {A1 A2 A3 A4 A5 A6 A7 A8 A9 A10 : Type} (W : Nat → A1 → A2 → A3 → A4 → A5 → A6 → A7 → A8 → A9 → A10 → Prop) (I : A1 → A2 → A3 → A4 → A5 → A6 → A7 → A8 → A9 → A10 → Prop) (μ : A1 → A2 → A3 → A4 → A5 → A6 → A7 → A8 → A9 → A10 → Nat) (hs : ∀ (n : Nat) (a1 : A1) (a2 : A2) (a3 : A3) (a4 : A4) (a5 : A5) (a6 : A6) (a7 : A7) (a8 : A8) (a9 : A9) (a10 : A10), I a1 a2 a3 a4 a5 a6 a7 a8 a9 a10 → (∀ (b1 : A1) (b2 : A2) (b3 : A3) (b4 : A4) (b5 : A5) (b6 : A6) (b7 : A7) (b8 : A8) (b9 : A9) (b10 : A10), I b1 b2 b3 b4 b5 b6 b7 b8 b9 b10 → μ b1 b2 b3 b4 b5 b6 b7 b8 b9 b10 < μ a1 a2 a3 a4 a5 a6 a7 a8 a9 a10 → W n b1 b2 b3 b4 b5 b6 b7 b8 b9 b10) → W (n + 1) a1 a2 a3 a4 a5 a6 a7 a8 a9 a10) (a1 : A1) (a2 : A2) (a3 : A3) (a4 : A4) (a5 : A5) (a6 : A6) (a7 : A7) (a8 : A8) (a9 : A9) (a10 : A10) (h : I a1 a2 a3 a4 a5 a6 a7 a8 a9 a10) : ∃ n, W n a1 a2 a3 a4 a5 a6 a7 a8 a9 a10 :=
  loop_m (σ := A1 × A2 × A3 × A4 × A5 × A6 × A7 × A8 × A9 × A10) (fun n s => W n s.1 s.2.1 s.2.2.1 s.2.2.2.1 s.2.2.2.2.1 s.2.2.2.2.2.1 s.2.2.2.2.2.2.1 s.2.2.2.2.2.2.2.1 s.2.2.2.2.2.2.2.2.1 s.2.2.2.2.2.2.2.2.2) (fun s => I s.1 s.2.1 s.2.2.1 s.2.2.2.1 s.2.2.2.2.1 s.2.2.2.2.2.1 s.2.2.2.2.2.2.1 s.2.2.2.2.2.2.2.1 s.2.2.2.2.2.2.2.2.1 s.2.2.2.2.2.2.2.2.2) (fun s => μ s.1 s.2.1 s.2.2.1 s.2.2.2.1 s.2.2.2.2.1 s.2.2.2.2.2.1 s.2.2.2.2.2.2.1 s.2.2.2.2.2.2.2.1 s.2.2.2.2.2.2.2.2.1 s.2.2.2.2.2.2.2.2.2) (fun n s hI hk => hs n s.1 s.2.1 s.2.2.1 s.2.2.2.1 s.2.2.2.2.1 s.2.2.2.2.2.1 s.2.2.2.2.2.2.1 s.2.2.2.2.2.2.2.1 s.2.2.2.2.2.2.2.2.1 s.2.2.2.2.2.2.2.2.2 hI (fun b1 b2 b3 b4 b5 b6 b7 b8 b9 b10 h9 hm => hk (b1, b2, b3, b4, b5, b6, b7, b8, b9, b10) h9 hm)) (a1, a2, a3, a4, a5, a6, a7, a8, a9, a10) h
theorem ek_if {c d A B : Prop} (e : c ↔ d) (f : d → A) (g : ¬ d → B) : (c → A) ∧ (¬ c → B) :=
  ⟨fun z => f (e.mp z), fun z => g (fun y => z (e.mpr y))⟩
theorem ek_v {α : Sort _} {P : α → Prop} {a b : α} (e : a = b) (h : P b) : P a := e ▸ h
end
section
/-! sums of a row of numbers: whole (qs_i) and natural (qs_n) -/
def qs_i (t : Nat → Int) : Nat → Int
  | 0 => 0
  | n + 1 => qs_i t n + t n
def qs_n (t : Nat → Nat) : Nat → Nat
  | 0 => 0
  | n + 1 => qs_n t n + t n
theorem qs_is (t : Nat → Int) (n : Nat) : qs_i t (n + 1) = qs_i t n + t n := rfl
theorem qs_ns (t : Nat → Nat) (n : Nat) : qs_n t (n + 1) = qs_n t n + t n := rfl
theorem qs_cg {t u : Nat → Int} (n : Nat) (h : ∀ e, e < n → t e = u e) : qs_i t n = qs_i u n := by
  induction n with
  | zero => rfl
  | succ n ih =>
    have h1 := ih (fun e he => h e (by omega))
    have h2 := h n (by omega)
    rw [qs_is, qs_is, h1, h2]
theorem qs_le {t u : Nat → Int} (n : Nat) (h : ∀ e, e < n → t e ≤ u e) : qs_i t n ≤ qs_i u n := by
  induction n with
  | zero => exact Int.le_refl 0
  | succ n ih =>
    have h1 := ih (fun e he => h e (by omega))
    have h2 := h n (by omega)
    rw [qs_is, qs_is]
    omega
theorem qs_up {t u : Nat → Int} {k : Nat} {d : Int} (n : Nat) (hk : k < n) (h : ∀ e, e < n → e ≠ k → u e = t e) (hd : u k = t k + d) : qs_i u n = qs_i t n + d := by
  induction n with
  | zero => omega
  | succ n ih =>
    rw [qs_is, qs_is]
    by_cases e : k = n
    · have h1 : qs_i u n = qs_i t n := qs_cg n (fun j hj => h j (by omega) (by omega))
      rw [← e, hd, e, h1]
      omega
    · have h1 := ih (by omega) (fun j hj hne => h j (by omega) hne)
      have h2 := h n (by omega) (fun z => e z.symm)
      rw [h1, h2]
      omega
theorem qs_z0 {t : Nat → Int} (n : Nat) (h : ∀ e, e < n → t e = 0) : qs_i t n = 0 := by
  induction n with
  | zero => rfl
  | succ n ih =>
    have h1 := ih (fun e he => h e (by omega))
    have h2 := h n (by omega)
    rw [qs_is]
    omega
theorem qs_nn {t : Nat → Int} (n : Nat) (h : ∀ e, e < n → 0 ≤ t e) : 0 ≤ qs_i t n := by
  induction n with
  | zero => exact Int.le_refl 0
  | succ n ih =>
    have h1 := ih (fun e he => h e (by omega))
    have h2 := h n (by omega)
    rw [qs_is]
    omega
theorem qs_g1 {t : Nat → Int} {k : Nat} (n : Nat) (h : ∀ e, e < n → 0 ≤ t e) (hk : k < n) : t k ≤ qs_i t n := by
  induction n with
  | zero => omega
  | succ n ih =>
    rw [qs_is]
    have h2 := h n (by omega)
    by_cases e : k = n
    · have h1 := qs_nn n (fun j hj => h j (by omega))
      rw [e]
      omega
    · have h1 := ih (fun e he => h e (by omega)) (by omega)
      omega
theorem qs_zz {t : Nat → Int} {k : Nat} (n : Nat) (h : ∀ e, e < n → 0 ≤ t e) (hz : qs_i t n = 0) (hk : k < n) : t k = 0 := by
  have h1 := qs_g1 n h hk
  have h2 := h k hk
  omega
theorem qs_ni (t : Nat → Nat) (n : Nat) : ((qs_n t n : Nat) : Int) = qs_i (fun e => (t e : Int)) n := by
  induction n with
  | zero => rfl
  | succ n ih =>
    rw [qs_ns, qs_is, ← ih]
    omega
theorem qs_nle {t : Nat → Nat} {B : Nat} (n : Nat) (h : ∀ e, e < n → t e ≤ B) : qs_n t n ≤ n * B := by
  induction n with
  | zero => exact Nat.zero_le _
  | succ n ih =>
    have h1 := ih (fun e he => h e (by omega))
    have h2 := h n (by omega)
    rw [qs_ns, Nat.succ_mul]
    omega
theorem qs_ncg {t u : Nat → Nat} (n : Nat) (h : ∀ e, e < n → t e = u e) : qs_n t n = qs_n u n := by
  induction n with
  | zero => rfl
  | succ n ih =>
    have h1 := ih (fun e he => h e (by omega))
    have h2 := h n (by omega)
    rw [qs_ns, qs_ns, h1, h2]
theorem qs_nup {t u : Nat → Nat} {k : Nat} {d : Nat} (n : Nat) (hk : k < n) (h : ∀ e, e < n → e ≠ k → u e = t e) (hd : u k = t k + d) : qs_n u n = qs_n t n + d := by
  induction n with
  | zero => omega
  | succ n ih =>
    rw [qs_ns, qs_ns]
    by_cases e : k = n
    · have h1 : qs_n u n = qs_n t n := qs_ncg n (fun j hj => h j (by omega) (by omega))
      rw [← e, hd, e, h1]
      omega
    · have h1 := ih (by omega) (fun j hj hne => h j (by omega) hne)
      have h2 := h n (by omega) (fun z => e z.symm)
      rw [h1, h2]
      omega
theorem qs_n0 {t : Nat → Nat} (n : Nat) (h : ∀ e, e < n → t e = 0) : qs_n t n = 0 := by
  induction n with
  | zero => rfl
  | succ n ih =>
    have h1 := ih (fun e he => h e (by omega))
    have h2 := h n (by omega)
    rw [qs_ns]
    omega
/-- how many m below N lie from a on and below b, each weighing w -/
theorem qs_iv (w : Int) (a b : Nat) (N : Nat) (hb : b ≤ N) : qs_i (fun m => if a ≤ m ∧ m < b then w else 0) N = w * ((b - a : Nat) : Int) := by
  have H : ∀ k, qs_i (fun m => if a ≤ m ∧ m < b then w else 0) k = w * (((if k < b then k else b) - a : Nat) : Int) := by
    intro k
    induction k with
    | zero =>
      by_cases e : 0 < b
      · rw [if_pos e, Nat.zero_sub]; exact (Int.mul_zero w).symm
      · rw [if_neg e, show b - a = 0 from by omega]; exact (Int.mul_zero w).symm
    | succ k ih =>
      rw [qs_is, ih]
      by_cases h1 : k < b
      · have e3 : (if k + 1 < b then k + 1 else b) = k + 1 := by
          by_cases h3 : k + 1 < b
          · exact if_pos h3
          · rw [if_neg h3]; omega
        rw [if_pos h1, e3]
        by_cases h2 : a ≤ k
        · rw [if_pos ⟨h2, h1⟩, show k + 1 - a = (k - a) + 1 from by omega, Int.natCast_add, Int.mul_add]
          show _ = _ + w * 1
          rw [Int.mul_one]
        · rw [if_neg (fun z => h2 z.1), show k + 1 - a = 0 from by omega, show k - a = 0 from by omega, Int.add_zero]
      · rw [if_neg h1, if_neg (fun z => h1 z.2), if_neg (show ¬ k + 1 < b from by omega), Int.add_zero]
  have h := H N
  by_cases e : N < b
  · omega
  · rw [if_neg e] at h
    exact h
end
section
/-! the network of places at moments, its cuts, and what a flow has to do with them -/
/-- what g says of every step of the network, summed: lines first, then the waiting -/
def qs_tot (h last : Nat) (F T W D : Nat → Nat) (g : Nat → Nat → Nat → Int) : Int :=
  qs_i (fun i => qs_i (fun m => g (13 * F i + m) (13 * T i + m + D i) (W i)) (last + 1 - D i)) h
    + qs_i (fun p => qs_i (fun m => g (13 * p + m) (13 * p + m + 1) 100000) last) 5
/-- the lines are as they may be -/
def qs_ok (h : Nat) (F T W D : Nat → Nat) : Prop := ∀ i, i < h → F i < 5 ∧ T i < 5 ∧ W i ≤ 5 ∧ D i ≤ 3
/-- steps 0 to n - 1, each with start, end and room, are the network's -/
def qs_Gr (h last : Nat) (F T W D : Nat → Nat) (n : Nat) (s d c : Nat → Nat) : Prop :=
  ∀ g : Nat → Nat → Nat → Int, qs_i (fun e => g (s e) (d e) (c e)) n = qs_tot h last F T W D g
theorem qs_tcg {h last : Nat} {F T W D : Nat → Nat} {g g' : Nat → Nat → Nat → Int} (hok : qs_ok h F T W D) (hl : last ≤ 12)
    (H : ∀ p q m k c, p < 5 → q < 5 → m ≤ last → k ≤ last → g (13 * p + m) (13 * q + k) c = g' (13 * p + m) (13 * q + k) c) :
    qs_tot h last F T W D g = qs_tot h last F T W D g' := by
  unfold qs_tot
  congr 1
  · refine qs_cg h (fun i hi => qs_cg _ (fun m hm => ?_))
    obtain ⟨h1, h2, h3, h4⟩ := hok i hi
    have := H (F i) (T i) m (m + D i) (W i) h1 h2 (by omega) (by omega)
    rw [Nat.add_assoc]
    exact this
  · refine qs_cg 5 (fun p hp => qs_cg _ (fun m hm => ?_))
    have := H p p m (m + 1) 100000 hp hp (by omega) (by omega)
    rw [Nat.add_assoc (13 * p) m 1]
    exact this
theorem qs_tnn {h last : Nat} {F T W D : Nat → Nat} {g : Nat → Nat → Nat → Int} (H : ∀ a b c, 0 ≤ g a b c) :
    0 ≤ qs_i (fun i => qs_i (fun m => g (13 * F i + m) (13 * T i + m + D i) (W i)) (last + 1 - D i)) h :=
  qs_nn h (fun _ _ => qs_nn _ (fun _ _ => H _ _ _))
/-- every step of the network has what all its lines and all its waiting have -/
theorem qs_all {h last : Nat} {F T W D : Nat → Nat} {n : Nat} {s d c : Nat → Nat} (G : qs_Gr h last F T W D n s d c) (P : Nat → Nat → Nat → Bool)
    (hl : ∀ i m, i < h → m < last + 1 - D i → P (13 * F i + m) (13 * T i + m + D i) (W i) = true)
    (hw : ∀ p m, p < 5 → m < last → P (13 * p + m) (13 * p + m + 1) 100000 = true) :
    ∀ e, e < n → P (s e) (d e) (c e) = true := by
  intro e he
  have h0 := G (fun a b c => if P a b c = true then 0 else 1)
  have h1 : qs_tot h last F T W D (fun a b c => if P a b c = true then 0 else 1) = 0 := by
    unfold qs_tot
    have e1 : qs_i (fun i => qs_i (fun m => if P (13 * F i + m) (13 * T i + m + D i) (W i) = true then (0 : Int) else 1) (last + 1 - D i)) h = 0 :=
      qs_z0 h (fun i hi => qs_z0 _ (fun m hm => if_pos (hl i m hi hm)))
    have e2 : qs_i (fun p => qs_i (fun m => if P (13 * p + m) (13 * p + m + 1) 100000 = true then (0 : Int) else 1) last) 5 = 0 :=
      qs_z0 5 (fun p hp => qs_z0 _ (fun m hm => if_pos (hw p m hp hm)))
    rw [e1, e2]
    rfl
  have h2 : qs_i (fun e => if P (s e) (d e) (c e) = true then (0 : Int) else 1) n = 0 := h0.trans h1
  have hnn : ∀ j, j < n → (0 : Int) ≤ (if P (s j) (d j) (c j) = true then (0 : Int) else 1) := by
    intro j _
    by_cases z : P (s j) (d j) (c j) = true
    · rw [if_pos z]
      exact Int.le_refl 0
    · rw [if_neg z]
      decide
  have h3 := qs_zz (k := e) n hnn h2 he
  by_cases z : P (s e) (d e) (c e) = true
  · exact z
  · have h4 : (if P (s e) (d e) (c e) = true then (0 : Int) else 1) = 0 := h3
    rw [if_neg z] at h4
    exact absurd h4 (by decide)
theorem qs_ends {h last : Nat} {F T W D : Nat → Nat} {n : Nat} {s d c : Nat → Nat} (G : qs_Gr h last F T W D n s d c) (hok : qs_ok h F T W D) (hl : last ≤ 12) :
    ∀ e, e < n → s e < 65 ∧ d e < 65 ∧ c e ≤ 100000 := by
  intro e he
  have h1 := qs_all G (fun a b c => decide (a < 65 ∧ b < 65 ∧ c ≤ 100000)) (fun i m hi hm => by
    obtain ⟨h1, h2, h3, h4⟩ := hok i hi
    exact decide_eq_true ⟨by omega, by omega, by omega⟩) (fun p m hp hm => decide_eq_true ⟨by omega, by omega, by omega⟩) e he
  exact of_decide_eq_true h1
/-- a step's room, if it leads out of R -/
def qs_ct (R : Nat → Bool) (a b c : Nat) : Int := if R a = true ∧ R b = false then (c : Int) else 0
def qs_ph (R : Nat → Bool) (v : Nat) : Int := if R v = true then 1 else 0
theorem qs_ct0 (R : Nat → Bool) (a b c : Nat) : 0 ≤ qs_ct R a b c := by
  unfold qs_ct
  by_cases z : R a = true ∧ R b = false
  · rw [if_pos z]; omega
  · rw [if_neg z]; exact Int.le_refl 0
/-- f is a flow of k from node 0 to goal -/
def qs_Fl (n : Nat) (s d : Nat → Nat) (f : Nat → Nat) (k : Int) (goal : Nat) : Prop :=
  ∀ φ : Nat → Int, qs_i (fun e => (f e : Int) * (φ (s e) - φ (d e))) n = k * (φ 0 - φ goal)
theorem qs_ph1 {R : Nat → Bool} {v : Nat} (h : R v = true) : qs_ph R v = 1 := if_pos h
theorem qs_ph0 {R : Nat → Bool} {v : Nat} (h : R v = false) : qs_ph R v = 0 := if_neg (by rw [h]; decide)
theorem qs_weak {n : Nat} {s d c f : Nat → Nat} {k : Int} {goal : Nat} {R : Nat → Bool} (hf : ∀ e, e < n → f e ≤ c e) (hφ : qs_Fl n s d f k goal)
    (R0 : R 0 = true) (Rg : R goal = false) : k ≤ qs_i (fun e => qs_ct R (s e) (d e) (c e)) n := by
  have h := hφ (qs_ph R)
  rw [qs_ph1 R0, qs_ph0 Rg] at h
  have h2 : qs_i (fun e => (f e : Int) * (qs_ph R (s e) - qs_ph R (d e))) n ≤ qs_i (fun e => qs_ct R (s e) (d e) (c e)) n := by
    refine qs_le n (fun e he => ?_)
    have h3 := hf e he
    cases hs : R (s e) with
    | false =>
      have h4 := qs_ct0 R (s e) (d e) (c e)
      rw [qs_ph0 hs]
      cases hd : R (d e) with
      | false => rw [qs_ph0 hd]; omega
      | true => rw [qs_ph1 hd]; omega
    | true =>
      rw [qs_ph1 hs]
      cases hd : R (d e) with
      | false =>
        rw [qs_ph0 hd, show qs_ct R (s e) (d e) (c e) = (c e : Int) from if_pos ⟨hs, hd⟩]
        omega
      | true =>
        have h4 := qs_ct0 R (s e) (d e) (c e)
        rw [qs_ph1 hd]
        omega
  omega
theorem qs_full {n : Nat} {s d c f : Nat → Nat} {k : Int} {goal : Nat} {R : Nat → Bool} (hf : ∀ e, e < n → f e ≤ c e) (hφ : qs_Fl n s d f k goal)
    (R0 : R 0 = true) (Rg : R goal = false) (ho : ∀ e, e < n → R (s e) = true → R (d e) = false → ¬ f e < c e)
    (hb : ∀ e, e < n → R (d e) = true → R (s e) = false → ¬ 0 < f e) : k = qs_i (fun e => qs_ct R (s e) (d e) (c e)) n := by
  have h := hφ (qs_ph R)
  rw [qs_ph1 R0, qs_ph0 Rg] at h
  have h2 : qs_i (fun e => (f e : Int) * (qs_ph R (s e) - qs_ph R (d e))) n = qs_i (fun e => qs_ct R (s e) (d e) (c e)) n := by
    refine qs_cg n (fun e he => ?_)
    have h3 := hf e he
    cases hs : R (s e) with
    | false =>
      rw [qs_ph0 hs, show qs_ct R (s e) (d e) (c e) = 0 from if_neg (fun z => by rw [hs] at z; exact absurd z.1 (by decide))]
      cases hd : R (d e) with
      | false => rw [qs_ph0 hd]; omega
      | true =>
        have h5 := hb e he hd hs
        rw [qs_ph1 hd]; omega
    | true =>
      rw [qs_ph1 hs]
      cases hd : R (d e) with
      | false =>
        have h5 := ho e he hs hd
        rw [qs_ph0 hd, show qs_ct R (s e) (d e) (c e) = (c e : Int) from if_pos ⟨hs, hd⟩]
        omega
      | true =>
        rw [qs_ph1 hd, show qs_ct R (s e) (d e) (c e) = 0 from if_neg (fun z => by rw [hd] at z; exact absurd z.2 (by decide))]
        omega
  omega
/-- the cut that one moment for each place tells -/
def qs_cut (h : Nat) (F T W D : Nat → Nat) (σ : Nat → Nat) : Nat := qs_n (fun i => W i * (σ (T i) - D i - σ (F i))) h
def qs_R (σ : Nat → Nat) (v : Nat) : Bool := decide (σ (v / 13) ≤ v % 13)
theorem qs_Rat (σ : Nat → Nat) (p m : Nat) (hm : m < 13) : qs_R σ (13 * p + m) = decide (σ p ≤ m) := by
  unfold qs_R
  rw [show (13 * p + m) / 13 = p from by omega, show (13 * p + m) % 13 = m from by omega]
theorem qs_cutR {h last : Nat} {F T W D : Nat → Nat} (hok : qs_ok h F T W D) (hl : last ≤ 12) (σ : Nat → Nat) (hσ : ∀ p, p < 5 → σ p ≤ last + 1) :
    qs_tot h last F T W D (qs_ct (qs_R σ)) = (qs_cut h F T W D σ : Int) := by
  unfold qs_tot qs_cut
  have e2 : qs_i (fun p => qs_i (fun m => qs_ct (qs_R σ) (13 * p + m) (13 * p + m + 1) 100000) last) 5 = 0 := by
    refine qs_z0 5 (fun p hp => qs_z0 _ (fun m hm => if_neg (fun z => ?_)))
    have z1 := z.1
    have z2 := z.2
    rw [qs_Rat σ p m (by omega)] at z1
    rw [Nat.add_assoc, qs_Rat σ p (m + 1) (by omega)] at z2
    have z3 := of_decide_eq_true z1
    have z4 := of_decide_eq_false z2
    omega
  rw [e2, Int.add_zero, qs_ni]
  refine qs_cg h (fun i hi => ?_)
  obtain ⟨h1, h2, h3, h4⟩ := hok i hi
  have hT := hσ (T i) h2
  have e3 : qs_i (fun m => qs_ct (qs_R σ) (13 * F i + m) (13 * T i + m + D i) (W i)) (last + 1 - D i) = qs_i (fun m => if σ (F i) ≤ m ∧ m < σ (T i) - D i then (W i : Int) else 0) (last + 1 - D i) := by
    refine qs_cg _ (fun m hm => ?_)
    unfold qs_ct
    rw [Nat.add_assoc, qs_Rat σ (F i) m (by omega), qs_Rat σ (T i) (m + D i) (by omega)]
    by_cases z : σ (F i) ≤ m ∧ m < σ (T i) - D i
    · rw [if_pos z, if_pos ⟨decide_eq_true z.1, decide_eq_false (by omega)⟩]
    · rw [if_neg z, if_neg (fun y => z ⟨of_decide_eq_true y.1, by have := of_decide_eq_false y.2; omega⟩)]
  rw [e3, qs_iv _ _ _ _ (by omega)]
  exact (Int.natCast_mul _ _).symm
/-- a row of yes and no that stays yes begins at one place -/
theorem qs_beg (Q : Nat → Bool) (N : Nat) (H : ∀ m, m + 1 < N → Q m = true → Q (m + 1) = true) : ∃ k, k ≤ N ∧ ∀ m, m < N → (Q m = true ↔ k ≤ m) := by
  induction N with
  | zero => exact ⟨0, Nat.le_refl 0, fun m hm => absurd hm (by omega)⟩
  | succ N ih =>
    obtain ⟨k, hk, h⟩ := ih (fun m hm => H m (by omega))
    by_cases hN : Q N = true
    · refine ⟨k, by omega, fun m hm => ?_⟩
      by_cases e : m = N
      · rw [e]; exact ⟨fun _ => hk, fun _ => hN⟩
      · exact h m (by omega)
    · refine ⟨N + 1, Nat.le_refl _, fun m hm => ⟨fun z => ?_, fun z => absurd z (by omega)⟩⟩
      exfalso
      by_cases e : m = N
      · rw [e] at z; exact hN z
      · have h1 := (h m (by omega)).mp z
        have h2 := (h (N - 1) (by omega)).mpr (by omega)
        have h3 := H (N - 1) (by omega) h2
        rw [show N - 1 + 1 = N from by omega] at h3
        exact hN h3
/-- one moment for each of the places 1, 2, 3; place 0 from 0 on, place 4 from N on -/
def qs_sd (N a b c : Nat) (p : Nat) : Nat := if p = 0 then 0 else if p = 1 then a else if p = 2 then b else if p = 3 then c else N
theorem qs_sdle {N a b c : Nat} (ha : a ≤ N) (hb : b ≤ N) (hc : c ≤ N) (p : Nat) : qs_sd N a b c p ≤ N := by
  unfold qs_sd
  by_cases h0 : p = 0
  · rw [if_pos h0]; omega
  · rw [if_neg h0]
    by_cases h1 : p = 1
    · rw [if_pos h1]; exact ha
    · rw [if_neg h1]
      by_cases h2 : p = 2
      · rw [if_pos h2]; exact hb
      · rw [if_neg h2]
        by_cases h3 : p = 3
        · rw [if_pos h3]; exact hc
        · rw [if_neg h3]; exact Nat.le_refl N
/-- v is the least cut -/
def qs_Min (h : Nat) (F T W D : Nat → Nat) (N v : Nat) : Prop :=
  (∀ a b c, a ≤ N → b ≤ N → c ≤ N → v ≤ qs_cut h F T W D (qs_sd N a b c)) ∧ ∃ a b c, a ≤ N ∧ b ≤ N ∧ c ≤ N ∧ v = qs_cut h F T W D (qs_sd N a b c)
theorem qs_Min1 {h : Nat} {F T W D : Nat → Nat} {N v w : Nat} (hv : qs_Min h F T W D N v) (hw : qs_Min h F T W D N w) : v = w := by
  obtain ⟨v1, a, b, c, ha, hb, hc, e⟩ := hv
  obtain ⟨w1, a', b', c', ha', hb', hc', e'⟩ := hw
  have h1 := v1 a' b' c' ha' hb' hc'
  have h2 := w1 a b c ha hb hc
  omega
theorem qs_cutB {h : Nat} {F T W D : Nat → Nat} {N : Nat} (hok : qs_ok h F T W D) (hh : h ≤ 8) (hN : N ≤ 13) {σ : Nat → Nat} (hσ : ∀ p, σ p ≤ N) : qs_cut h F T W D σ ≤ 520 := by
  have h1 : qs_cut h F T W D σ ≤ h * 65 := by
    refine qs_nle h (fun i hi => ?_)
    obtain ⟨_, _, h3, _⟩ := hok i hi
    have h4 := hσ (T i)
    exact Nat.mul_le_mul (n₂ := 5) (m₂ := 13) h3 (by omega)
  omega
theorem qs_sdR {N a b c p : Nat} : qs_R (qs_sd N a b c) 0 = true := decide_eq_true (Nat.zero_le _)
/-- a flow of k with room left nowhere out of R: k is the least cut -/
theorem qs_mfmc {h last : Nat} {F T W D : Nat → Nat} {n : Nat} {s d c f : Nat → Nat} {k : Nat} {R : Nat → Bool} (G : qs_Gr h last F T W D n s d c) (hok : qs_ok h F T W D) (hh : h ≤ 8) (hl : last ≤ 12)
    (hf : ∀ e, e < n → f e ≤ c e) (hφ : qs_Fl n s d f k (52 + last)) (R0 : R 0 = true) (Rg : R (52 + last) = false)
    (ho : ∀ e, e < n → R (s e) = true → R (d e) = false → ¬ f e < c e) (hb : ∀ e, e < n → R (d e) = true → R (s e) = false → ¬ 0 < f e) (hk : k < 100000) :
    qs_Min h F T W D (last + 1) k := by
  constructor
  · intro a b c' ha hb' hc
    have hle : ∀ p, qs_sd (last + 1) a b c' p ≤ last + 1 := qs_sdle ha hb' hc
    have h1 := qs_weak (R := qs_R (qs_sd (last + 1) a b c')) hf hφ (decide_eq_true (Nat.zero_le _)) (by
      rw [show 52 + last = 13 * 4 + last from rfl, qs_Rat _ 4 last (by omega)]
      exact decide_eq_false (by show ¬ last + 1 ≤ last; omega))
    rw [G (qs_ct (qs_R (qs_sd (last + 1) a b c'))), qs_cutR hok hl _ (fun p _ => hle p)] at h1
    omega
  · have h1 := qs_full hf hφ R0 Rg ho hb
    rw [G (qs_ct R)] at h1
    have hup : ∀ p m, p < 5 → m < last → R (13 * p + m) = true → R (13 * p + (m + 1)) = true := by
      intro p m hp hm hR
      cases hR' : R (13 * p + (m + 1)) with
      | true => rfl
      | false =>
        exfalso
        have h2 := qs_tnn (h := h) (last := last) (F := F) (T := T) (W := W) (D := D) (g := qs_ct R) (qs_ct0 R)
        have h3 : qs_i (fun m => qs_ct R (13 * p + m) (13 * p + m + 1) 100000) last ≤ qs_i (fun p => qs_i (fun m => qs_ct R (13 * p + m) (13 * p + m + 1) 100000) last) 5 :=
          qs_g1 (t := fun p => qs_i (fun m => qs_ct R (13 * p + m) (13 * p + m + 1) 100000) last) 5 (fun _ _ => qs_nn _ (fun _ _ => qs_ct0 R _ _ _)) hp
        have h4 : qs_ct R (13 * p + m) (13 * p + m + 1) 100000 ≤ qs_i (fun m => qs_ct R (13 * p + m) (13 * p + m + 1) 100000) last :=
          qs_g1 (t := fun m => qs_ct R (13 * p + m) (13 * p + m + 1) 100000) last (fun _ _ => qs_ct0 R _ _ _) hm
        have h5 : qs_ct R (13 * p + m) (13 * p + m + 1) 100000 = ((100000 : Nat) : Int) := if_pos ⟨hR, hR'⟩
        unfold qs_tot at h1
        omega
    have hex : ∀ p, ∃ k, p < 5 → (k ≤ last + 1 ∧ ∀ m, m < last + 1 → (R (13 * p + m) = true ↔ k ≤ m)) := by
      intro p
      by_cases hp : p < 5
      · obtain ⟨k, h2, h3⟩ := qs_beg (fun m => R (13 * p + m)) (last + 1) (fun m hm hQ => hup p m hp (by omega) hQ)
        exact ⟨k, fun _ => ⟨h2, h3⟩⟩
      · exact ⟨0, fun z => absurd z hp⟩
    obtain ⟨σ, hσ⟩ := Classical.axiomOfChoice hex
    have s0 : σ 0 = 0 := by
      have h2 := ((hσ 0 (by decide)).2 0 (by omega)).mp R0
      omega
    have s4 : σ 4 = last + 1 := by
      have h2 := (hσ 4 (by decide)).1
      have h3 := (hσ 4 (by decide)).2 last (by omega)
      have h4 : ¬ R (13 * 4 + last) = true := by
        rw [show 13 * 4 + last = 52 + last from rfl, Rg]
        decide
      have h5 : ¬ σ 4 ≤ last := fun z => h4 (h3.mpr z)
      omega
    have e1 : qs_tot h last F T W D (qs_ct R) = qs_tot h last F T W D (qs_ct (qs_R (qs_sd (last + 1) (σ 1) (σ 2) (σ 3)))) := by
      have key : ∀ p m, p < 5 → m ≤ last → R (13 * p + m) = qs_R (qs_sd (last + 1) (σ 1) (σ 2) (σ 3)) (13 * p + m) := by
        intro p m hp hm
        have e2 : qs_sd (last + 1) (σ 1) (σ 2) (σ 3) p = σ p := by
          rcases (show p = 0 ∨ p = 1 ∨ p = 2 ∨ p = 3 ∨ p = 4 from by omega) with rfl | rfl | rfl | rfl | rfl
          · exact s0.symm
          · rfl
          · rfl
          · rfl
          · exact s4.symm
        rw [qs_Rat _ p m (by omega), e2]
        have h2 := (hσ p hp).2 m (by omega)
        by_cases z : σ p ≤ m
        · rw [decide_eq_true z]; exact h2.mpr z
        · rw [decide_eq_false z]
          cases y : R (13 * p + m) with
          | false => rfl
          | true => exact absurd (h2.mp y) z
      refine qs_tcg hok hl (fun p q m k c hp hq hm hk => ?_)
      unfold qs_ct
      rw [key p m hp hm, key q k hq hk]
    have hle : ∀ p, qs_sd (last + 1) (σ 1) (σ 2) (σ 3) p ≤ last + 1 := qs_sdle (hσ 1 (by decide)).1 (hσ 2 (by decide)).1 (hσ 3 (by decide)).1
    refine ⟨σ 1, σ 2, σ 3, (hσ 1 (by decide)).1, (hσ 2 (by decide)).1, (hσ 3 (by decide)).1, ?_⟩
    rw [e1, qs_cutR hok hl _ (fun p _ => hle p)] at h1
    omega
/-- no flow is greater than 520 -/
theorem qs_520 {h last : Nat} {F T W D : Nat → Nat} {n : Nat} {s d c f : Nat → Nat} {k : Nat} (G : qs_Gr h last F T W D n s d c) (hok : qs_ok h F T W D) (hh : h ≤ 8) (hl : last ≤ 12)
    (hf : ∀ e, e < n → f e ≤ c e) (hφ : qs_Fl n s d f k (52 + last)) : k ≤ 520 := by
  have hle : ∀ p, qs_sd (last + 1) 0 0 0 p ≤ last + 1 := qs_sdle (by omega) (by omega) (by omega)
  have h1 := qs_weak (R := qs_R (qs_sd (last + 1) 0 0 0)) hf hφ (decide_eq_true (Nat.zero_le _)) (by
    rw [show 52 + last = 13 * 4 + last from rfl, qs_Rat _ 4 last (by omega)]
    exact decide_eq_false (by show ¬ last + 1 ≤ last; omega))
  rw [G (qs_ct (qs_R (qs_sd (last + 1) 0 0 0))), qs_cutR hok hl _ (fun p _ => hle p)] at h1
  have h2 := qs_cutB (N := last + 1) hok hh (by omega) hle
  omega
end
section
/-! the reference's search and its sending: what they keep -/
def qr_u (f : Nat → Nat) (e x : Nat) : Nat → Nat := fun j => if j = e then x else f j
theorem qr_us {f : Nat → Nat} {e x : Nat} : qr_u f e x e = x := if_pos rfl
theorem qr_un {f : Nat → Nat} {e x j : Nat} (h : j ≠ e) : qr_u f e x j = f j := if_neg h
theorem qr_neg1 : (-1 : Int32) < 0 := by decide
theorem qr_nn {j : Nat} (h : j < 2 ^ 31) : ¬ nI j < 0 := nI_pos h
/-- v was come to by a step with room (or with something to take back) from a node that was come to before -/
def qr_Par (n : Nat) (s d c f : Nat → Nat) (came : Nat → Int32) (o : Nat → Nat) (v : Nat) : Prop :=
  ∃ e, e < n ∧ ((came v = nI e ∧ d e = v ∧ f e < c e ∧ (¬ came (s e) < 0) ∧ o (s e) < o v) ∨ (came v = nI (200 + e) ∧ s e = v ∧ 0 < f e ∧ (¬ came (d e) < 0) ∧ o (d e) < o v))
/-- step e was looked at from u -/
def qr_Cl (s d c f : Nat → Nat) (came : Nat → Int32) (u e : Nat) : Prop :=
  (s e = u → f e < c e → ¬ came (d e) < 0) ∧ (d e = u → 0 < f e → ¬ came (s e) < 0)
def qr_cnt (came : Nat → Int32) : Nat := qs_n (fun v => if came v < 0 then 0 else 1) 65
def qr_Q (n : Nat) (s d c f : Nat → Nat) (came queue : Nat → Int32) (cnt : Nat) (q o : Nat → Nat) : Prop :=
  (∀ k, k < cnt → queue k = nI (q k) ∧ q k < 65 ∧ ¬ came (q k) < 0) ∧
  (∀ v, v < 65 → ¬ came v < 0 → o v < cnt ∧ q (o v) = v ∧ (v ≠ 0 → qr_Par n s d c f came o v)) ∧
  qr_cnt came = cnt ∧ ¬ came 0 < 0
theorem qr_0 {n : Nat} {s d c f : Nat → Nat} {came queue : Nat → Int32} (h : ∀ v, v < 65 → came v = -1) :
    qr_Q n s d c f (upd came 0 999) (upd queue 0 0) 1 (fun _ => 0) (fun _ => 0) := by
  have h9 : ¬ (upd came 0 999) 0 < 0 := by rw [pk_us]; decide
  have hz : ∀ v, v < 65 → ¬ (upd came 0 999) v < 0 → v = 0 := by
    intro v hv hr
    by_cases e : v = 0
    · exact e
    · rw [pk_un e, h v hv] at hr
      exact absurd qr_neg1 hr
  refine ⟨fun k hk => ?_, fun v hv hr => ?_, ?_, h9⟩
  · have e : k = 0 := by omega
    subst e
    exact ⟨pk_us, by decide, h9⟩
  · have e := hz v hv hr
    exact ⟨Nat.zero_lt_one, e.symm, fun z => absurd e z⟩
  · have h1 : qs_n (fun v => if (upd came 0 999) v < 0 then 0 else 1) 65 = qs_n (fun _ => 0) 65 + 1 := by
      refine qs_nup (k := 0) 65 (by decide) (fun v hv hne => ?_) (if_neg h9)
      by_cases z : (upd came 0 999) v < 0
      · exact if_pos z
      · exact absurd (hz v hv z) hne
    rw [qs_n0 65 (fun _ _ => rfl)] at h1
    exact h1
theorem qr_lt {n : Nat} {s d c f : Nat → Nat} {came queue : Nat → Int32} {cnt : Nat} {q o : Nat → Nat} (H : qr_Q n s d c f came queue cnt q o) {x : Nat} (hx : x < 65) (hn : came x < 0) {val : Int32} (hv : ¬ val < 0) :
    cnt < 65 ∧ qr_cnt (upd came x val) = cnt + 1 := by
  have h1 : qs_n (fun v => if (upd came x val) v < 0 then 0 else 1) 65 = qs_n (fun v => if came v < 0 then 0 else 1) 65 + 1 := by
    refine qs_nup (k := x) 65 hx (fun v hv hne => ?_) ?_
    · show (if (upd came x val) v < 0 then 0 else 1) = (if came v < 0 then 0 else 1)
      rw [pk_un hne]
    · show (if (upd came x val) x < 0 then 0 else 1) = (if came x < 0 then 0 else 1) + 1
      rw [pk_us, if_neg hv, if_pos hn]
  have h2 : qs_n (fun v => if (upd came x val) v < 0 then 0 else 1) 65 ≤ 65 * 1 := by
    refine qs_nle 65 (fun v _ => ?_)
    show (if (upd came x val) v < 0 then 0 else 1) ≤ 1
    by_cases z : (upd came x val) v < 0
    · rw [if_pos z]; decide
    · rw [if_neg z]; decide
  have h3 : qs_n (fun v => if came v < 0 then 0 else 1) 65 = cnt := H.2.2.1
  refine ⟨by omega, ?_⟩
  unfold qr_cnt
  omega
theorem qr_add {n : Nat} {s d c f : Nat → Nat} {came queue : Nat → Int32} {cnt : Nat} {q o : Nat → Nat} (H : qr_Q n s d c f came queue cnt q o) (he : ∀ e, e < n → s e < 65 ∧ d e < 65) {x : Nat} (hx : x < 65) (hn : came x < 0) {val : Int32} (hv : ¬ val < 0)
    (hp : ∃ e, e < n ∧ ((val = nI e ∧ d e = x ∧ f e < c e ∧ ¬ came (s e) < 0) ∨ (val = nI (200 + e) ∧ s e = x ∧ 0 < f e ∧ ¬ came (d e) < 0))) :
    qr_Q n s d c f (upd came x val) (upd queue cnt (nI x)) (cnt + 1) (qr_u q cnt x) (qr_u o x cnt) := by
  have hne : ∀ v, ¬ came v < 0 → v ≠ x := fun v hr e => hr (e ▸ hn)
  have hkeep : ∀ v, ¬ came v < 0 → (upd came x val) v = came v := fun v hr => pk_un (hne v hr)
  obtain ⟨H1, H2, H3, H4⟩ := H
  refine ⟨fun k hk => ?_, fun v hv' hr => ?_, (qr_lt ⟨H1, H2, H3, H4⟩ hx hn hv).2, ?_⟩
  · by_cases e : k = cnt
    · subst e
      refine ⟨?_, ?_, ?_⟩
      · rw [pk_us, qr_us]
      · rw [qr_us]; exact hx
      · rw [qr_us, pk_us]; exact hv
    · obtain ⟨a1, a2, a3⟩ := H1 k (by omega)
      refine ⟨?_, ?_, ?_⟩
      · rw [pk_un e, qr_un e]; exact a1
      · rw [qr_un e]; exact a2
      · rw [qr_un e, hkeep _ a3]; exact a3
  · by_cases e : v = x
    · subst e
      refine ⟨?_, ?_, fun _ => ?_⟩
      · rw [qr_us]; omega
      · rw [qr_us, qr_us]
      · obtain ⟨e, he', hor⟩ := hp
        refine ⟨e, he', ?_⟩
        rcases hor with ⟨b1, b2, b3, b4⟩ | ⟨b1, b2, b3, b4⟩
        · refine Or.inl ⟨by rw [pk_us]; exact b1, b2, b3, by rw [hkeep _ b4]; exact b4, ?_⟩
          rw [qr_un (hne _ b4), qr_us]
          exact (H2 _ (he e he').1 b4).1
        · refine Or.inr ⟨by rw [pk_us]; exact b1, b2, b3, by rw [hkeep _ b4]; exact b4, ?_⟩
          rw [qr_un (hne _ b4), qr_us]
          exact (H2 _ (he e he').2 b4).1
    · have hr' : ¬ came v < 0 := by rw [pk_un e] at hr; exact hr
      obtain ⟨a1, a2, a3⟩ := H2 v hv' hr'
      refine ⟨?_, ?_, fun z => ?_⟩
      · rw [qr_un e]; omega
      · rw [qr_un e, qr_un (show ¬ o v = cnt from by omega)]; exact a2
      · obtain ⟨e', he', hor⟩ := a3 z
        refine ⟨e', he', ?_⟩
        rcases hor with ⟨b1, b2, b3, b4, b5⟩ | ⟨b1, b2, b3, b4, b5⟩
        · refine Or.inl ⟨by rw [pk_un e]; exact b1, b2, b3, by rw [hkeep _ b4]; exact b4, ?_⟩
          rw [qr_un (hne _ b4), qr_un e]
          exact b5
        · refine Or.inr ⟨by rw [pk_un e]; exact b1, b2, b3, by rw [hkeep _ b4]; exact b4, ?_⟩
          rw [qr_un (hne _ b4), qr_un e]
          exact b5
  · rw [hkeep _ H4]; exact H4
theorem qr_keep {came : Nat → Int32} {x : Nat} {val : Int32} (hv : ¬ val < 0) {v : Nat} (h : ¬ came v < 0) : ¬ (upd came x val) v < 0 := by
  by_cases e : v = x
  · rw [e, pk_us]; exact hv
  · rw [pk_un e]; exact h
theorem qr_clk {s d c f : Nat → Nat} {came : Nat → Int32} {x : Nat} {val : Int32} (hv : ¬ val < 0) {u e : Nat} (h : qr_Cl s d c f came u e) : qr_Cl s d c f (upd came x val) u e :=
  ⟨fun a b => qr_keep hv (h.1 a b), fun a b => qr_keep hv (h.2 a b)⟩
/-- the search within: nodes before the i-th are done, of the i-th the steps before e -/
def qr_I (n : Nat) (s d c f : Nat → Nat) (came queue : Nat → Int32) (cnt i e : Nat) : Prop :=
  ∃ q o, qr_Q n s d c f came queue cnt q o ∧ (∀ k, k < i → ∀ e', e' < n → qr_Cl s d c f came (q k) e') ∧ (∀ e', e' < e → qr_Cl s d c f came (q i) e')
/-- the tree of the search -/
def qr_T (n : Nat) (s d c f : Nat → Nat) (came : Nat → Int32) (o : Nat → Nat) : Prop :=
  (∀ v, v < 65 → ¬ came v < 0 → v ≠ 0 → qr_Par n s d c f came o v) ∧ (¬ came 0 < 0)
theorem qr_I0 {n : Nat} {s d c f : Nat → Nat} {came queue : Nat → Int32} (h : ∀ v, v < 65 → came v = -1) : qr_I n s d c f (upd came 0 999) (upd queue 0 0) 1 0 0 :=
  ⟨_, _, qr_0 h, fun k hk => absurd hk (by omega), fun k hk => absurd hk (by omega)⟩
theorem qr_Inext {n : Nat} {s d c f : Nat → Nat} {came queue : Nat → Int32} {cnt i : Nat} (h : qr_I n s d c f came queue cnt i n) : qr_I n s d c f came queue cnt (i + 1) 0 := by
  obtain ⟨q, o, h1, h2, h3⟩ := h
  refine ⟨q, o, h1, fun k hk e he => ?_, fun k hk => absurd hk (by omega)⟩
  by_cases z : k = i
  · rw [z]; exact h3 e he
  · exact h2 k (by omega) e he
theorem qr_Iq {n : Nat} {s d c f : Nat → Nat} {came queue : Nat → Int32} {cnt i e : Nat} (h : qr_I n s d c f came queue cnt i e) (hi : i < cnt) : ∃ u, u < 65 ∧ queue i = nI u ∧ ¬ came u < 0 := by
  obtain ⟨q, o, h1, h2, h3⟩ := h
  obtain ⟨a, b, c⟩ := h1.1 i hi
  exact ⟨q i, b, a, c⟩
theorem qr_Icnt {n : Nat} {s d c f : Nat → Nat} {came queue : Nat → Int32} {cnt i e : Nat} (h : qr_I n s d c f came queue cnt i e) : cnt ≤ 65 := by
  obtain ⟨q, o, h1, h2, h3⟩ := h
  have h4 : qs_n (fun v => if came v < 0 then 0 else 1) 65 = cnt := h1.2.2.1
  have h5 : qs_n (fun v => if came v < 0 then 0 else 1) 65 ≤ 65 * 1 := by
    refine qs_nle 65 (fun v _ => ?_)
    show (if came v < 0 then 0 else 1) ≤ 1
    by_cases z : came v < 0
    · rw [if_pos z]; decide
    · rw [if_neg z]; decide
  omega
/-- a step that leads nowhere new -/
theorem qr_Iskip {n : Nat} {s d c f : Nat → Nat} {came queue : Nat → Int32} {cnt i e u : Nat} (h : qr_I n s d c f came queue cnt i e) (hi : i < cnt) (hu : queue i = nI u) (hu65 : u < 65)
    (h1 : s e = u → f e < c e → ¬ came (d e) < 0) (h2 : d e = u → 0 < f e → ¬ came (s e) < 0) : qr_I n s d c f came queue cnt i (e + 1) := by
  obtain ⟨q, o, a1, a2, a3⟩ := h
  obtain ⟨b1, b2, b3⟩ := a1.1 i hi
  have eu : q i = u := by
    rw [b1] at hu
    exact (nI_eq (by omega) (by omega)).mp hu
  refine ⟨q, o, a1, a2, fun k hk => ?_⟩
  by_cases z : k = e
  · rw [z, eu]; exact ⟨h1, h2⟩
  · exact a3 k (by omega)
/-- a step to a new node x -/
theorem qr_Inew {n : Nat} {s d c f : Nat → Nat} {came queue : Nat → Int32} {cnt i e u x : Nat} {val : Int32} (h : qr_I n s d c f came queue cnt i e) (he65 : ∀ e, e < n → s e < 65 ∧ d e < 65) (hi : i < cnt) (hu : queue i = nI u) (hu65 : u < 65)
    (he : e < n) (hx : x < 65) (hn : came x < 0) (hv : ¬ val < 0)
    (hp : (val = nI e ∧ s e = u ∧ d e = x ∧ f e < c e) ∨ (val = nI (200 + e) ∧ d e = u ∧ s e = x ∧ 0 < f e)) :
    cnt < 65 ∧ qr_I n s d c f (upd came x val) (upd queue cnt (nI x)) (cnt + 1) i (e + 1) := by
  obtain ⟨q, o, a1, a2, a3⟩ := h
  obtain ⟨b1, b2, b3⟩ := a1.1 i hi
  have eu : q i = u := by
    rw [b1] at hu
    exact (nI_eq (by omega) (by omega)).mp hu
  rw [eu] at b3
  have hux : ¬ u = x := fun z => b3 (z ▸ hn)
  refine ⟨(qr_lt a1 hx hn hv).1, _, _, qr_add a1 he65 hx hn hv ⟨e, he, ?_⟩, fun k hk e' he' => ?_, fun k hk => ?_⟩
  · rcases hp with ⟨c1, c2, c3, c4⟩ | ⟨c1, c2, c3, c4⟩
    · exact Or.inl ⟨c1, c3, c4, by rw [c2]; exact b3⟩
    · exact Or.inr ⟨c1, c3, c4, by rw [c2]; exact b3⟩
  · rw [qr_un (show ¬ k = cnt from by omega)]
    exact qr_clk hv (a2 k hk e' he')
  · rw [qr_un (show ¬ i = cnt from by omega)]
    by_cases z : k = e
    · rw [z, eu]
      have hxr : ¬ (upd came x val) x < 0 := by rw [pk_us]; exact hv
      rcases hp with ⟨c1, c2, c3, c4⟩ | ⟨c1, c2, c3, c4⟩
      · refine ⟨fun _ _ => by rw [c3]; exact hxr, fun y _ => ?_⟩
        exact absurd (y.symm.trans c3) hux
      · refine ⟨fun y _ => ?_, fun _ _ => by rw [c3]; exact hxr⟩
        exact absurd (y.symm.trans c3) hux
    · exact qr_clk hv (a3 k (by omega))
/-- the search has ended -/
theorem qr_Iend {n : Nat} {s d c f : Nat → Nat} {came queue : Nat → Int32} {cnt : Nat} (h : qr_I n s d c f came queue cnt cnt 0) (he65 : ∀ e, e < n → s e < 65 ∧ d e < 65) :
    (∃ o, qr_T n s d c f came o) ∧ (∀ e, e < n → ¬ came (s e) < 0 → f e < c e → ¬ came (d e) < 0) ∧ (∀ e, e < n → ¬ came (d e) < 0 → 0 < f e → ¬ came (s e) < 0) ∧ ¬ came 0 < 0 := by
  obtain ⟨q, o, a1, a2, a3⟩ := h
  refine ⟨⟨o, fun v hv hr hz => (a1.2.1 v hv hr).2.2 hz, a1.2.2.2⟩, fun e he hr hf => ?_, fun e he hr hf => ?_, a1.2.2.2⟩
  · obtain ⟨b1, b2, b3⟩ := a1.2.1 (s e) (he65 e he).1 hr
    exact (a2 (o (s e)) b1 e he).1 b2.symm hf
  · obtain ⟨b1, b2, b3⟩ := a1.2.1 (d e) (he65 e he).2 hr
    exact (a2 (o (d e)) b1 e he).2 b2.symm hf
/-- the sending within: from goal back to at -/
def qr_S (n : Nat) (s d c f : Nat → Nat) (came : Nat → Int32) (o : Nat → Nat) (cur k goal : Nat) : Prop :=
  cur < 65 ∧ (¬ came cur < 0) ∧ (∀ e, e < n → f e ≤ c e) ∧
  (∀ φ : Nat → Int, qs_i (fun e => (f e : Int) * (φ (s e) - φ (d e))) n = (k : Int) * (φ 0 - φ goal) + (φ cur - φ goal)) ∧
  (∀ v, v < 65 → ¬ came v < 0 → v ≠ 0 → o v ≤ o cur → qr_Par n s d c f came o v)
theorem qr_S0 {n : Nat} {s d c f : Nat → Nat} {came : Nat → Int32} {o : Nat → Nat} {k goal : Nat} (hT : qr_T n s d c f came o) (hg : goal < 65) (hr : ¬ came goal < 0) (hf : ∀ e, e < n → f e ≤ c e) (hφ : qs_Fl n s d f k goal) : qr_S n s d c f came o goal k goal := by
  refine ⟨hg, hr, hf, fun φ => ?_, fun v hv hr hz _ => hT.1 v hv hr hz⟩
  rw [hφ φ]
  omega
theorem qr_Send {n : Nat} {s d c f : Nat → Nat} {came : Nat → Int32} {o : Nat → Nat} {k goal : Nat} (h : qr_S n s d c f came o 0 k goal) : qs_Fl n s d f ((k + 1 : Nat) : Int) goal := by
  intro φ
  rw [h.2.2.2.1 φ, Int.natCast_add, Int.add_mul]
  show _ = _ + 1 * (φ 0 - φ goal)
  rw [Int.one_mul]
theorem qr_Sstep {n : Nat} {s d c f : Nat → Nat} {came : Nat → Int32} {o : Nat → Nat} {cur k goal : Nat} (he65 : ∀ e, e < n → s e < 65 ∧ d e < 65) (h : qr_S n s d c f came o cur k goal) (h0 : cur ≠ 0) :
    ∃ e, e < n ∧ ((came cur = nI e ∧ f e < c e ∧ o (s e) < o cur ∧ qr_S n s d c (qr_u f e (f e + 1)) came o (s e) k goal)
      ∨ (came cur = nI (200 + e) ∧ 0 < f e ∧ o (d e) < o cur ∧ qr_S n s d c (qr_u f e (f e - 1)) came o (d e) k goal)) := by
  obtain ⟨h1, h2, h3, h4, h5⟩ := h
  obtain ⟨e, he, hor⟩ := h5 cur h1 h2 h0 (Nat.le_refl _)
  refine ⟨e, he, ?_⟩
  rcases hor with ⟨b1, b2, b3, b4, b5⟩ | ⟨b1, b2, b3, b4, b5⟩
  · refine Or.inl ⟨b1, b3, b5, (he65 e he).1, b4, fun j hj => ?_, fun φ => ?_, fun v hv hr hz ho => ?_⟩
    · by_cases z : j = e
      · rw [z, qr_us]; omega
      · rw [qr_un z]; exact h3 j hj
    · have e1 : qs_i (fun j => ((qr_u f e (f e + 1) j : Nat) : Int) * (φ (s j) - φ (d j))) n = qs_i (fun j => (f j : Int) * (φ (s j) - φ (d j))) n + (φ (s e) - φ (d e)) := by
        refine qs_up (k := e) n he (fun j hj hne => ?_) ?_
        · show ((qr_u f e (f e + 1) j : Nat) : Int) * (φ (s j) - φ (d j)) = (f j : Int) * (φ (s j) - φ (d j))
          rw [qr_un hne]
        · show ((qr_u f e (f e + 1) e : Nat) : Int) * (φ (s e) - φ (d e)) = (f e : Int) * (φ (s e) - φ (d e)) + (φ (s e) - φ (d e))
          rw [qr_us, Int.natCast_add, Int.add_mul]
          show _ + 1 * (φ (s e) - φ (d e)) = _
          rw [Int.one_mul]
      rw [e1, h4 φ, b2]
      omega
    · obtain ⟨e', he', hor'⟩ := h5 v hv hr hz (by omega)
      refine ⟨e', he', ?_⟩
      by_cases z : e' = e
      · exfalso
        subst z
        rcases hor' with ⟨c1, c2, c3, c4, c5⟩ | ⟨c1, c2, c3, c4, c5⟩
        · rw [b2] at c2; rw [c2] at b5; omega
        · rw [b2] at c5; omega
      · rw [qr_un z]; exact hor'
  · refine Or.inr ⟨b1, b3, b5, (he65 e he).2, b4, fun j hj => ?_, fun φ => ?_, fun v hv hr hz ho => ?_⟩
    · by_cases z : j = e
      · have := h3 e he
        rw [z, qr_us]; omega
      · rw [qr_un z]; exact h3 j hj
    · have e1 : qs_i (fun j => ((qr_u f e (f e - 1) j : Nat) : Int) * (φ (s j) - φ (d j))) n = qs_i (fun j => (f j : Int) * (φ (s j) - φ (d j))) n + -(φ (s e) - φ (d e)) := by
        refine qs_up (k := e) n he (fun j hj hne => ?_) ?_
        · show ((qr_u f e (f e - 1) j : Nat) : Int) * (φ (s j) - φ (d j)) = (f j : Int) * (φ (s j) - φ (d j))
          rw [qr_un hne]
        · show ((qr_u f e (f e - 1) e : Nat) : Int) * (φ (s e) - φ (d e)) = (f e : Int) * (φ (s e) - φ (d e)) + -(φ (s e) - φ (d e))
          rw [qr_us, show ((f e - 1 : Nat) : Int) = (f e : Int) + -1 from by omega, Int.add_mul]
          rw [Int.neg_mul, Int.one_mul]
      rw [e1, h4 φ, b2]
      omega
    · obtain ⟨e', he', hor'⟩ := h5 v hv hr hz (by omega)
      refine ⟨e', he', ?_⟩
      by_cases z : e' = e
      · exfalso
        subst z
        rcases hor' with ⟨c1, c2, c3, c4, c5⟩ | ⟨c1, c2, c3, c4, c5⟩
        · rw [b2] at c5; omega
        · rw [b2] at c2; rw [c2] at b5; omega
      · rw [qr_un z]; exact hor'
end
section
/-! building the network; the least of the cuts, one tried after the other; the first moment -/
def qb_B (S E R L : Nat → Int32) (n : Nat) (G : (Nat → Nat → Nat → Int) → Int) : Prop :=
  ∃ s d c : Nat → Nat, (∀ e, e < n → S e = nI (s e) ∧ E e = nI (d e) ∧ R e = nI (c e) ∧ L e = 0) ∧ ∀ g : Nat → Nat → Nat → Int, qs_i (fun e => g (s e) (d e) (c e)) n = G g
theorem qb_0 {S E R L : Nat → Int32} {G : (Nat → Nat → Nat → Int) → Int} (hG : ∀ g, G g = 0) : qb_B S E R L 0 G :=
  ⟨fun _ => 0, fun _ => 0, fun _ => 0, fun e he => absurd he (by omega), fun g => (hG g).symm⟩
theorem qb_cg {S E R L : Nat → Int32} {n : Nat} {G G' : (Nat → Nat → Nat → Int) → Int} (h : qb_B S E R L n G) (hG : ∀ g, G' g = G g) : qb_B S E R L n G' := by
  obtain ⟨s, d, c, h1, h2⟩ := h
  exact ⟨s, d, c, h1, fun g => (h2 g).trans (hG g).symm⟩
theorem qb_push {S E R L : Nat → Int32} {n : Nat} {G G' : (Nat → Nat → Nat → Int) → Int} (h : qb_B S E R L n G) (x y z : Nat) (hG : ∀ g, G' g = G g + g x y z) :
    qb_B (upd S n (nI x)) (upd E n (nI y)) (upd R n (nI z)) (upd L n 0) (n + 1) G' := by
  obtain ⟨s, d, c, h1, h2⟩ := h
  refine ⟨qr_u s n x, qr_u d n y, qr_u c n z, fun e he => ?_, fun g => ?_⟩
  · by_cases q : e = n
    · subst q
      exact ⟨pk_us.trans (congrArg nI qr_us).symm, pk_us.trans (congrArg nI qr_us).symm, pk_us.trans (congrArg nI qr_us).symm, pk_us⟩
    · obtain ⟨a1, a2, a3, a4⟩ := h1 e (by omega)
      exact ⟨(pk_un q).trans (a1.trans (congrArg nI (qr_un q)).symm), (pk_un q).trans (a2.trans (congrArg nI (qr_un q)).symm), (pk_un q).trans (a3.trans (congrArg nI (qr_un q)).symm), (pk_un q).trans a4⟩
  · have e1 : qs_i (fun e => g (qr_u s n x e) (qr_u d n y e) (qr_u c n z e)) n = qs_i (fun e => g (s e) (d e) (c e)) n := by
      refine qs_cg n (fun e he => ?_)
      have q : e ≠ n := by omega
      show g (qr_u s n x e) (qr_u d n y e) (qr_u c n z e) = g (s e) (d e) (c e)
      rw [qr_un q, qr_un q, qr_un q]
    have e2 : g (qr_u s n x n) (qr_u d n y n) (qr_u c n z n) = g x y z := by rw [qr_us, qr_us, qr_us]
    have e3 := hG g
    have e4 := h2 g
    rw [qs_is, e1, e2, e3, e4]
/-- the lines of the network, one after the other -/
def qb_l (last : Nat) (F T W D : Nat → Nat) (g : Nat → Nat → Nat → Int) (i : Nat) : Int := qs_i (fun m => g (13 * F i + m) (13 * T i + m + D i) (W i)) (last + 1 - D i)
def qb_w (last : Nat) (g : Nat → Nat → Nat → Int) (p : Nat) : Int := qs_i (fun m => g (13 * p + m) (13 * p + m + 1) 100000) last
def qb_GL (last : Nat) (F T W D : Nat → Nat) (i m : Nat) (g : Nat → Nat → Nat → Int) : Int :=
  qs_i (qb_l last F T W D g) i + qs_i (fun m => g (13 * F i + m) (13 * T i + m + D i) (W i)) m
def qb_GW (h last : Nat) (F T W D : Nat → Nat) (p m : Nat) (g : Nat → Nat → Nat → Int) : Int :=
  qs_i (qb_l last F T W D g) h + qs_i (qb_w last g) p + qs_i (fun m => g (13 * p + m) (13 * p + m + 1) 100000) m
theorem qb_GL0 (last : Nat) (F T W D : Nat → Nat) (g : Nat → Nat → Nat → Int) : qb_GL last F T W D 0 0 g = 0 := rfl
theorem qb_GLs (last : Nat) (F T W D : Nat → Nat) (i m : Nat) (g : Nat → Nat → Nat → Int) : qb_GL last F T W D i (m + 1) g = qb_GL last F T W D i m g + g (13 * F i + m) (13 * T i + m + D i) (W i) := by
  unfold qb_GL
  rw [qs_is]
  omega
theorem qb_GLn (last : Nat) (F T W D : Nat → Nat) (i : Nat) (g : Nat → Nat → Nat → Int) : qb_GL last F T W D (i + 1) 0 g = qb_GL last F T W D i (last + 1 - D i) g := by
  show qs_i (qb_l last F T W D g) i + qb_l last F T W D g i + 0 = _
  rw [Int.add_zero]
  rfl
theorem qb_GLW (h last : Nat) (F T W D : Nat → Nat) (g : Nat → Nat → Nat → Int) : qb_GW h last F T W D 0 0 g = qb_GL last F T W D h 0 g := by
  show qs_i (qb_l last F T W D g) h + 0 + 0 = qs_i (qb_l last F T W D g) h + 0
  omega
theorem qb_GWs (h last : Nat) (F T W D : Nat → Nat) (p m : Nat) (g : Nat → Nat → Nat → Int) : qb_GW h last F T W D p (m + 1) g = qb_GW h last F T W D p m g + g (13 * p + m) (13 * p + m + 1) 100000 := by
  unfold qb_GW
  rw [qs_is (fun m => g (13 * p + m) (13 * p + m + 1) 100000)]
  omega
theorem qb_GWn (h last : Nat) (F T W D : Nat → Nat) (p : Nat) (g : Nat → Nat → Nat → Int) : qb_GW h last F T W D (p + 1) 0 g = qb_GW h last F T W D p last g := by
  show qs_i (qb_l last F T W D g) h + (qs_i (qb_w last g) p + qb_w last g p) + 0 = qs_i (qb_l last F T W D g) h + qs_i (qb_w last g) p + qb_w last g p
  omega
theorem qb_Gend (h last : Nat) (F T W D : Nat → Nat) (g : Nat → Nat → Nat → Int) : qb_GW h last F T W D 5 0 g = qs_tot h last F T W D g := by
  show qs_tot h last F T W D g + 0 = _
  exact Int.add_zero _
/-- what build leaves -/
theorem qb_end {S E R L : Nat → Int32} {n h last : Nat} {F T W D : Nat → Nat} (H : qb_B S E R L n (qb_GW h last F T W D 5 0)) :
    ∃ s d c : Nat → Nat, (∀ e, e < n → S e = nI (s e) ∧ E e = nI (d e) ∧ R e = nI (c e) ∧ L e = 0) ∧ qs_Gr h last F T W D n s d c := by
  obtain ⟨s, d, c, h1, h2⟩ := H
  exact ⟨s, d, c, h1, fun g => (h2 g).trans (qb_Gend h last F T W D g)⟩
theorem qb_Fl0 {n : Nat} {s d : Nat → Nat} {goal : Nat} : qs_Fl n s d (fun _ => 0) 0 goal := by
  intro φ
  rw [qs_z0 n (fun e _ => by show ((0 : Nat) : Int) * (φ (s e) - φ (d e)) = 0; exact Int.zero_mul _), Int.zero_mul]
/-! the component's cuts -/
def qx_L (K : Nat → Nat → Nat → Nat) (N a b c v : Nat) : Prop :=
  v ≤ 1000000 ∧ (v = 1000000 ∨ ∃ a' b' c', a' ≤ N ∧ b' ≤ N ∧ c' ≤ N ∧ v = K a' b' c') ∧
  ∀ a' b' c', a' ≤ N → b' ≤ N → c' ≤ N → (a' < a ∨ (a' = a ∧ (b' < b ∨ (b' = b ∧ c' < c)))) → v ≤ K a' b' c'
theorem qx_L0 (K : Nat → Nat → Nat → Nat) (N : Nat) : qx_L K N 0 0 0 1000000 :=
  ⟨Nat.le_refl _, Or.inl rfl, fun a' b' c' _ _ _ h => by omega⟩
theorem qx_Lc {K : Nat → Nat → Nat → Nat} {N a b c v w : Nat} (h : qx_L K N a b c v) (ha : a ≤ N) (hb : b ≤ N) (hc : c ≤ N) (hw : w = K a b c) : qx_L K N a b (c + 1) (if w < v then w else v) := by
  obtain ⟨h1, h2, h3⟩ := h
  by_cases z : w < v
  · rw [if_pos z]
    refine ⟨by omega, Or.inr ⟨a, b, c, ha, hb, hc, hw⟩, fun a' b' c' ha' hb' hc' hl => ?_⟩
    by_cases y : a' = a ∧ b' = b ∧ c' = c
    · obtain ⟨rfl, rfl, rfl⟩ := y
      omega
    · have := h3 a' b' c' ha' hb' hc' (by omega)
      omega
  · rw [if_neg z]
    refine ⟨h1, h2, fun a' b' c' ha' hb' hc' hl => ?_⟩
    by_cases y : a' = a ∧ b' = b ∧ c' = c
    · obtain ⟨rfl, rfl, rfl⟩ := y
      omega
    · exact h3 a' b' c' ha' hb' hc' (by omega)
theorem qx_Lb {K : Nat → Nat → Nat → Nat} {N a b v : Nat} (h : qx_L K N a b (N + 1) v) : qx_L K N a (b + 1) 0 v :=
  ⟨h.1, h.2.1, fun a' b' c' ha hb hc hl => h.2.2 a' b' c' ha hb hc (by omega)⟩
theorem qx_La {K : Nat → Nat → Nat → Nat} {N a v : Nat} (h : qx_L K N a (N + 1) 0 v) : qx_L K N (a + 1) 0 0 v :=
  ⟨h.1, h.2.1, fun a' b' c' ha hb hc hl => h.2.2 a' b' c' ha hb hc (by omega)⟩
theorem qx_Lend {h : Nat} {F T W D : Nat → Nat} {N v : Nat} (hL : qx_L (fun a b c => qs_cut h F T W D (qs_sd N a b c)) N (N + 1) 0 0 v) (hok : qs_ok h F T W D) (hh : h ≤ 8) (hN : N ≤ 13) : qs_Min h F T W D N v := by
  obtain ⟨h1, h2, h3⟩ := hL
  refine ⟨fun a b c ha hb hc => h3 a b c ha hb hc (Or.inl (by omega)), ?_⟩
  rcases h2 with h2 | h2
  · exfalso
    have h4 : v ≤ qs_cut h F T W D (qs_sd N 0 0 0) := h3 0 0 0 (by omega) (by omega) (by omega) (Or.inl (by omega))
    have h5 := qs_cutB (σ := qs_sd N 0 0 0) hok hh hN (qs_sdle (by omega) (by omega) (by omega))
    omega
  · exact h2
theorem qx_ti {a t b : Nat} (ha : a < 1000) (ht : t < 1000) (hb : b < 1000) : (nI a - nI t - nI b).toInt = (a : Int) - t - b := by
  rw [Int32.toInt_sub, pk_sub_toInt (by omega) (by omega), nI_toInt (by omega)]
  exact Int.bmod_eq_of_le (by omega) (by omega)
theorem qx_le {a t b : Nat} (ha : a < 1000) (ht : t < 1000) (hb : b < 1000) : (nI a - nI t - nI b ≤ 0) ↔ a - t - b = 0 := by
  rw [Int32.le_iff_toInt_le, qx_ti ha ht hb, show (0 : Int32).toInt = 0 from by decide]
  omega
theorem qx_eq {a t b : Nat} (h : ¬ a - t - b = 0) : nI a - nI t - nI b = nI (a - t - b) := by
  rw [pk_sub (by omega), pk_sub (by omega)]
/-! the least cut as a number, and the first moment with so much -/
theorem qm_ex (h : Nat) (F T W D : Nat → Nat) (N : Nat) : ∃ v, qs_Min h F T W D N v := by
  obtain ⟨v, ⟨a, b, c, ha, hb, hc, e⟩, hl⟩ := pk_least (fun v => ∃ a b c, a ≤ N ∧ b ≤ N ∧ c ≤ N ∧ v = qs_cut h F T W D (qs_sd N a b c)) ⟨_, 0, 0, 0, Nat.zero_le _, Nat.zero_le _, Nat.zero_le _, rfl⟩
  refine ⟨v, fun a' b' c' ha' hb' hc' => ?_, a, b, c, ha, hb, hc, e⟩
  by_cases z : v ≤ qs_cut h F T W D (qs_sd N a' b' c')
  · exact z
  · exact absurd ⟨a', b', c', ha', hb', hc', rfl⟩ (hl _ (by omega))
noncomputable def qm_v (h : Nat) (F T W D : Nat → Nat) (N : Nat) : Nat := Classical.choose (qm_ex h F T W D N)
theorem qm_is {h : Nat} {F T W D : Nat → Nat} {N v : Nat} (H : qs_Min h F T W D N v) : v = qm_v h F T W D N :=
  qs_Min1 H (Classical.choose_spec (qm_ex h F T W D N))
def qm_f (val : Nat → Nat) (amt : Int32) : Nat → Nat → Int32
  | 0, _ => -1
  | k + 1, t => if nI (val t) < amt then qm_f val amt k (t + 1) else nI t
theorem qm_f1 {val : Nat → Nat} {amt : Int32} {k t : Nat} (h : nI (val t) < amt) : qm_f val amt (k + 1) t = qm_f val amt k (t + 1) := if_pos h
theorem qm_f0 {val : Nat → Nat} {amt : Int32} {k t : Nat} (h : ¬ nI (val t) < amt) : qm_f val amt (k + 1) t = nI t := if_neg h
end
section
/-! the lines that both sides hold -/
def qv_ok (h : Nat) (A B C E : Nat → Int32) : Prop :=
  ∀ j, j < h → ∃ f t w d : Nat, A j = nI f ∧ B j = nI t ∧ C j = nI w ∧ E j = nI d ∧ f < 5 ∧ t < 5 ∧ w ≤ 4 ∧ d ≤ 3
def qv_n (A : Nat → Int32) (j : Nat) : Nat := (A j).toNatClampNeg
theorem qv_nI {A : Nat → Int32} {j f : Nat} (h : A j = nI f) (hf : f < 2 ^ 31) : qv_n A j = f := by
  unfold qv_n
  rw [h, nI_clamp hf]
theorem qv_at {h : Nat} {A B C E : Nat → Int32} (H : qv_ok h A B C E) {j : Nat} (hj : j < h) :
    A j = nI (qv_n A j) ∧ B j = nI (qv_n B j) ∧ C j = nI (qv_n C j) ∧ E j = nI (qv_n E j) ∧ qv_n A j < 5 ∧ qv_n B j < 5 ∧ qv_n C j ≤ 4 ∧ qv_n E j ≤ 3 := by
  obtain ⟨f, t, w, d, h1, h2, h3, h4, h5, h6, h7, h8⟩ := H j hj
  rw [qv_nI h1 (by omega), qv_nI h2 (by omega), qv_nI h3 (by omega), qv_nI h4 (by omega)]
  exact ⟨h1, h2, h3, h4, h5, h6, h7, h8⟩
theorem qv_add {h : Nat} {A B C E : Nat → Int32} (H : qv_ok h A B C E) {f t w d : Nat} (h5 : f < 5) (h6 : t < 5) (h7 : w ≤ 4) (h8 : d ≤ 3) :
    qv_ok (h + 1) (upd A h (nI f)) (upd B h (nI t)) (upd C h (nI w)) (upd E h (nI d)) := by
  intro j hj
  by_cases e : j = h
  · subst e
    exact ⟨f, t, w, d, pk_us, pk_us, pk_us, pk_us, h5, h6, h7, h8⟩
  · rw [pk_un e, pk_un e, pk_un e, pk_un e]
    exact H j (by omega)
theorem qv_mv {h : Nat} {A B C E : Nat → Int32} (H : qv_ok h A B C E) {i : Nat} (hi : i + 1 < h) :
    qv_ok h (upd A i (A (i + 1))) (upd B i (B (i + 1))) (upd C i (C (i + 1))) (upd E i (E (i + 1))) := by
  intro j hj
  by_cases e : j = i
  · subst e
    rw [pk_us, pk_us, pk_us, pk_us]
    exact H (j + 1) hi
  · rw [pk_un e, pk_un e, pk_un e, pk_un e]
    exact H j hj
theorem qv_le {h k : Nat} {A B C E : Nat → Int32} (H : qv_ok h A B C E) (hk : k ≤ h) : qv_ok k A B C E := fun j hj => H j (by omega)
/-- k cells from i on, each moved one place back -/
def qv_sh (A : Nat → Int32) : Nat → Nat → (Nat → Int32)
  | 0, _ => A
  | k + 1, i => qv_sh (upd A i (A (i + 1))) k (i + 1)
theorem qv_shok {h : Nat} : ∀ (k i : Nat) (A B C E : Nat → Int32), qv_ok h A B C E → i + k < h → qv_ok h (qv_sh A k i) (qv_sh B k i) (qv_sh C k i) (qv_sh E k i) := by
  intro k
  induction k with
  | zero => exact fun i A B C E H _ => H
  | succ k ih => exact fun i A B C E H hi => ih (i + 1) _ _ _ _ (qv_mv H (by omega)) (by omega)
/-- the width as one line is one wider; the time as it counts -/
def qv_W (C : Nat → Int32) (wd : Int32) (j : Nat) : Nat := if nI j = wd then qv_n C j + 1 else qv_n C j
def qv_D (E : Nat → Int32) (tm : Int32) (j : Nat) : Nat := if tm = 0 then 0 else qv_n E j
theorem qv_qs {h : Nat} {A B C E : Nat → Int32} (H : qv_ok h A B C E) (wd tm : Int32) : qs_ok h (qv_n A) (qv_n B) (qv_W C wd) (qv_D E tm) := by
  intro i hi
  obtain ⟨_, _, _, _, h5, h6, h7, h8⟩ := qv_at H hi
  refine ⟨h5, h6, ?_, ?_⟩
  · unfold qv_W
    by_cases z : nI i = wd
    · rw [if_pos z]; omega
    · rw [if_neg z]; omega
  · unfold qv_D
    by_cases z : tm = 0
    · rw [if_pos z]; omega
    · rw [if_neg z]; omega
theorem qv_W0 {C : Nat → Int32} {wd : Int32} {j : Nat} (h : ¬ nI j = wd) : qv_W C wd j = qv_n C j := if_neg h
theorem qv_W1 {C : Nat → Int32} {wd : Int32} {j : Nat} (h : nI j = wd) : qv_W C wd j = qv_n C j + 1 := if_pos h
theorem qv_D0 {E : Nat → Int32} {tm : Int32} {j : Nat} (h : tm = 0) : qv_D E tm j = 0 := if_pos h
theorem qv_D1 {E : Nat → Int32} {tm : Int32} {j : Nat} (h : ¬ tm = 0) : qv_D E tm j = qv_n E j := if_neg h
theorem qv_m1 {j : Nat} (h : j < 1000) : ¬ nI j = -1 := fun z => absurd (z ▸ (by decide : (-1 : Int32) < 0)) (nI_pos (n := j) (by omega))
theorem qv_up {C : Nat → Int32} {k : Nat} {y : Int32} : upd (upd C k y) k (C k) = C := by
  funext j
  by_cases e : j = k
  · rw [e, pk_us]
  · rw [pk_un e, pk_un e]
end
section
/-! the component's walks: one cut, the least cut, the first moment -/
theorem qx_cuts (i : Nat) (F T W D σ : Nat → Nat) : qs_cut (i + 1) F T W D σ = qs_cut i F T W D σ + W i * (σ (T i) - D i - σ (F i)) := rfl
section QX
variable {h : Nat} {A B C E S : Nat → Int32}
theorem qx_cut {post : Int32 → Prop} {wd tm : Int32} {σ : Nat → Nat} (hok : qv_ok h A B C E) (hh : h ≤ 8) (hS : ∀ p, p < 5 → S p = nI (σ p)) (hσ : ∀ p, σ p ≤ 13)
    (K : post (nI (qs_cut h (qv_n A) (qv_n B) (qv_W C wd) (qv_D E tm) σ))) : wpX_cutSize post (nI h, A, B, C, E, S) wd tm := by
  have main : ∀ (d i : Nat), i + d = h → wX_cutSize_5 post wd tm (nI h) A B C E S (d + 1) (nI (qs_cut i (qv_n A) (qv_n B) (qv_W C wd) (qv_D E tm) σ)) (nI i) := by
    intro d
    induction d with
    | zero =>
      intro i hi
      have e : i = h := by omega
      subst e
      exact br_t (nI_le (Nat.le_refl _) (by omega)) K
    | succ d ih =>
      intro i hi
      have hlt : i < h := by omega
      obtain ⟨a1, a2, a3, a4, a5, a6, a7, a8⟩ := qv_at hok hlt
      have ci : (nI i).toNatClampNeg = i := nI_clamp (by omega)
      have vi : vp_in (nI i) 8 := vp_in_nI (by omega) (by omega)
      have nx := ih (i + 1) (by omega)
      have b1 : A (nI i).toNatClampNeg = nI (qv_n A i) := by rw [ci]; exact a1
      have b2 : B (nI i).toNatClampNeg = nI (qv_n B i) := by rw [ci]; exact a2
      have b3 : C (nI i).toNatClampNeg = nI (qv_n C i) := by rw [ci]; exact a3
      have b4 : E (nI i).toNatClampNeg = nI (qv_n E i) := by rw [ci]; exact a4
      have s1 := hσ (qv_n A i)
      have s2 := hσ (qv_n B i)
      have e56 : ∀ tD wW : Nat, tD ≤ 3 → tD = qv_D E tm i → wW = qv_W C wd i →
          wX_cutSize_56 post (wX_cutSize_5 post wd tm (nI h) A B C E S (d + 1)) wd tm (nI (qs_cut i (qv_n A) (qv_n B) (qv_W C wd) (qv_D E tm) σ)) (nI i) (nI tD) (nI wW) (nI h) A B C E S := by
        intro tD wW h3 eD eW
        unfold wX_cutSize_56
        rw [b1, b2]
        refine ⟨vi, vp_in_nI a6 (by omega), vi, vp_in_nI a5 (by omega), nm_r (e' := nI (σ (qv_n B i)) - nI tD - nI (σ (qv_n A i))) (by rw [nI_clamp (by omega), nI_clamp (by omega), hS _ a6, hS _ a5]) ?_⟩
        rw [qx_cuts, ← eD, ← eW] at nx
        by_cases z : σ (qv_n B i) - tD - σ (qv_n A i) = 0
        · rw [z, Nat.mul_zero, Nat.add_zero] at nx
          exact br_t ((qx_le (by omega) (by omega) (by omega)).mpr z) (nm_r (nI_1 i) nx)
        · refine br_f (fun y => z ((qx_le (by omega) (by omega) (by omega)).mp y)) ?_
          rw [qx_eq z]
          exact nm_r (by rw [pk_mul, nI_add]) (nm_r (nI_1 i) nx)
      have e29 : ∀ tD : Nat, tD ≤ 3 → tD = qv_D E tm i →
          wX_cutSize_29 post (wX_cutSize_5 post wd tm (nI h) A B C E S (d + 1)) wd tm (nI (qs_cut i (qv_n A) (qv_n B) (qv_W C wd) (qv_D E tm) σ)) (nI i) (nI tD) (nI h) A B C E S := by
        intro tD h3 eD
        unfold wX_cutSize_29
        rw [b3]
        by_cases z : nI i = wd
        · refine br_t z ⟨vi, ?_⟩
          rw [nI_1]
          exact e56 tD _ h3 eD (qv_W1 z).symm
        · exact br_f z ⟨vi, e56 tD _ h3 eD (qv_W0 z).symm⟩
      refine br_f (nI_ge hlt (by omega)) ?_
      by_cases z : tm = 0
      · exact br_t z (e29 0 (by omega) (qv_D0 z).symm)
      · refine br_f z ⟨vi, ?_⟩
        rw [b4]
        exact e29 _ a8 (qv_D1 z).symm
  exact ⟨h + 1, main h 0 (by omega)⟩
theorem qx_63 {post : Int32 → SX → Prop} {J27 J45 : Int32 → Int32 → (Nat → Int32) → (Nat → Int32) → (Nat → Int32) → (Nat → Int32) → (Nat → Int32) → Prop} {wd tm : Int32} {N a b : Nat} (hok : qv_ok h A B C E) (hh : h ≤ 8) (hN : N ≤ 13) (ha : a ≤ N) (hb : b ≤ N)
    (K : ∀ v S', qx_L (fun a b c => qs_cut h (qv_n A) (qv_n B) (qv_W C wd) (qv_D E tm) (qs_sd N a b c)) N a b (N + 1) v → S' 0 = nI 0 → S' 1 = nI a → S' 2 = nI b → S' 4 = nI N → J45 (nI v) (nI (b + 1)) A B C E S') :
    ∀ (d c v : Nat) (S : Nat → Int32), c + d = N + 1 → qx_L (fun a b c => qs_cut h (qv_n A) (qv_n B) (qv_W C wd) (qv_D E tm) (qs_sd N a b c)) N a b c v → S 0 = nI 0 → S 1 = nI a → S 2 = nI b → S 4 = nI N →
    wX_leastCut_63 post J27 J45 wd tm (nI N) (nI a) (nI b) (nI h) (d + 1) (nI v) (nI c) A B C E S := by
  intro d
  induction d with
  | zero =>
    intro c v S hc hL s0 s1 s2 s4
    have e : c = N + 1 := by omega
    subst e
    exact br_t (nI_lt (by omega) (by omega)) (nm_r (nI_1 b) (K v S hL s0 s1 s2 s4))
  | succ d ih =>
    intro c v S hc hL s0 s1 s2 s4
    have hcN : c ≤ N := by omega
    have hle : ∀ p, qs_sd N a b c p ≤ N := qs_sdle ha hb hcN
    have hB := qs_cutB (σ := qs_sd N a b c) (qv_qs hok wd tm) hh hN hle
    have hv := hL.1
    have hL' := qx_Lc hL ha hb hcN rfl
    have hS : ∀ p, p < 5 → (upd S 3 (nI c)) p = nI (qs_sd N a b c p) := by
      intro p hp
      rcases (show p = 0 ∨ p = 1 ∨ p = 2 ∨ p = 3 ∨ p = 4 from by omega) with rfl | rfl | rfl | rfl | rfl
      · rw [pk_un (by decide)]; exact s0
      · rw [pk_un (by decide)]; exact s1
      · rw [pk_un (by decide)]; exact s2
      · rw [pk_us]; rfl
      · rw [pk_un (by decide)]; exact s4
    have t0 : (upd S 3 (nI c)) 0 = nI 0 := by rw [pk_un (by decide)]; exact s0
    have t1 : (upd S 3 (nI c)) 1 = nI a := by rw [pk_un (by decide)]; exact s1
    have t2 : (upd S 3 (nI c)) 2 = nI b := by rw [pk_un (by decide)]; exact s2
    have t4 : (upd S 3 (nI c)) 4 = nI N := by rw [pk_un (by decide)]; exact s4
    refine br_f (nI_nlt hcN (by omega)) (nm_e (qx_cut (σ := qs_sd N a b c) hok hh hS (fun p => Nat.le_trans (hle p) hN) ?_))
    by_cases z : qs_cut h (qv_n A) (qv_n B) (qv_W C wd) (qv_D E tm) (qs_sd N a b c) < v
    · rw [if_pos z] at hL'
      exact br_f (nI_ge z (by omega)) (nm_r (nI_1 c) (ih (c + 1) _ _ (by omega) hL' t0 t1 t2 t4))
    · rw [if_neg z] at hL'
      exact br_t (nI_le (by omega) (by omega)) (nm_r (nI_1 c) (ih (c + 1) _ _ (by omega) hL' t0 t1 t2 t4))
theorem qx_45 {post : Int32 → SX → Prop} {J27 : Int32 → Int32 → (Nat → Int32) → (Nat → Int32) → (Nat → Int32) → (Nat → Int32) → (Nat → Int32) → Prop} {wd tm : Int32} {N a : Nat} (hok : qv_ok h A B C E) (hh : h ≤ 8) (hN : N ≤ 13) (ha : a ≤ N)
    (K : ∀ v S', qx_L (fun a b c => qs_cut h (qv_n A) (qv_n B) (qv_W C wd) (qv_D E tm) (qs_sd N a b c)) N a (N + 1) 0 v → S' 0 = nI 0 → S' 1 = nI a → S' 4 = nI N → J27 (nI v) (nI (a + 1)) A B C E S') :
    ∀ (d b v : Nat) (S : Nat → Int32), b + d = N + 1 → qx_L (fun a b c => qs_cut h (qv_n A) (qv_n B) (qv_W C wd) (qv_D E tm) (qs_sd N a b c)) N a b 0 v → S 0 = nI 0 → S 1 = nI a → S 4 = nI N →
    wX_leastCut_45 post J27 wd tm (nI N) (nI a) (nI h) (d + 1) (nI v) (nI b) A B C E S := by
  intro d
  induction d with
  | zero =>
    intro b v S hc hL s0 s1 s4
    have e : b = N + 1 := by omega
    subst e
    exact br_t (nI_lt (by omega) (by omega)) (nm_r (nI_1 a) (K v S hL s0 s1 s4))
  | succ d ih =>
    intro b v S hc hL s0 s1 s4
    have hbN : b ≤ N := by omega
    refine br_f (nI_nlt hbN (by omega)) (nm_e ⟨N + 1 + 1, ?_⟩)
    refine qx_63 hok hh hN ha hbN (fun v' S' hL' t0 t1 t2 t4 => ih (b + 1) v' S' (by omega) (qx_Lb hL') t0 t1 t4) (N + 1) 0 v _ (by omega) hL ?_ ?_ pk_us ?_
    · rw [pk_un (by decide)]; exact s0
    · rw [pk_un (by decide)]; exact s1
    · rw [pk_un (by decide)]; exact s4
theorem qx_27 {post : Int32 → SX → Prop} {wd tm : Int32} {N : Nat} (hok : qv_ok h A B C E) (hh : h ≤ 8) (hN : N ≤ 13)
    (K : ∀ v S', qx_L (fun a b c => qs_cut h (qv_n A) (qv_n B) (qv_W C wd) (qv_D E tm) (qs_sd N a b c)) N (N + 1) 0 0 v → post (nI v) (nI h, A, B, C, E, S')) :
    ∀ (d a v : Nat) (S : Nat → Int32), a + d = N + 1 → qx_L (fun a b c => qs_cut h (qv_n A) (qv_n B) (qv_W C wd) (qv_D E tm) (qs_sd N a b c)) N a 0 0 v → S 0 = nI 0 → S 4 = nI N →
    wX_leastCut_27 post wd tm (nI N) (nI h) (d + 1) (nI v) (nI a) A B C E S := by
  intro d
  induction d with
  | zero =>
    intro a v S hc hL s0 s4
    have e : a = N + 1 := by omega
    subst e
    exact br_t (nI_lt (by omega) (by omega)) (K v S hL)
  | succ d ih =>
    intro a v S hc hL s0 s4
    have haN : a ≤ N := by omega
    refine br_f (nI_nlt haN (by omega)) (nm_e ⟨N + 1 + 1, ?_⟩)
    refine qx_45 hok hh hN haN (fun v' S' hL' t0 t1 t4 => ih (a + 1) v' S' (by omega) (qx_La hL') t0 t4) (N + 1) 0 v _ (by omega) hL ?_ pk_us ?_
    · rw [pk_un (by decide)]; exact s0
    · rw [pk_un (by decide)]; exact s4
theorem qx_least {post : Int32 → SX → Prop} {wd tm : Int32} {t : Nat} (hok : qv_ok h A B C E) (hh : h ≤ 8) (ht : t ≤ 12)
    (K : ∀ S', post (nI (qm_v h (qv_n A) (qv_n B) (qv_W C wd) (qv_D E tm) (t + 1))) (nI h, A, B, C, E, S')) : wpX_leastCut post (nI h, A, B, C, E, S) (nI t) wd tm := by
  refine nm_r (nI_1 t) (nm_e (nm_e ⟨t + 1 + 1 + 1, ?_⟩))
  refine qx_27 hok hh (by omega) (fun v S' hL => ?_) (t + 1 + 1) 0 1000000 _ (by omega) (qx_L0 _ _) ?_ pk_us
  · have e := qm_is (qx_Lend hL (qv_qs hok wd tm) hh (by omega))
    rw [e]
    exact K S'
  · rw [pk_un (by decide), pk_us]; rfl
theorem qx_first {post : Int32 → SX → Prop} {amt : Int32} (hok : qv_ok h A B C E) (hh : h ≤ 8) :
    ∀ (d t : Nat) (S : Nat → Int32), t + d = 13 → (∀ S', post (qm_f (fun t => qm_v h (qv_n A) (qv_n B) (qv_W C (-1)) (qv_D E 1) (t + 1)) amt d t) (nI h, A, B, C, E, S')) →
    wX_firstMomentWith_2 post amt (d + 1) (nI t) (nI h) A B C E S := by
  intro d
  induction d with
  | zero =>
    intro t S ht K
    have e : t = 13 := by omega
    subst e
    exact br_t (by decide) (K S)
  | succ d ih =>
    intro t S ht K
    refine br_f (nI_nlt (a := 12) (by omega) (by omega)) (qx_least hok hh (by omega) (fun S' => ?_))
    by_cases z : nI (qm_v h (qv_n A) (qv_n B) (qv_W C (-1)) (qv_D E 1) (t + 1)) < amt
    · rw [qm_f1 (val := fun t => qm_v h (qv_n A) (qv_n B) (qv_W C (-1)) (qv_D E 1) (t + 1)) (t := t) z] at K
      exact br_t z (nm_r (nI_1 t) (ih (t + 1) S' (by omega) K))
    · rw [qm_f0 (val := fun t => qm_v h (qv_n A) (qv_n B) (qv_W C (-1)) (qv_D E 1) (t + 1)) (t := t) z] at K
      exact br_f z (K S')
end QX
end
section
/-! the reference's walks: building the network -/
section QY
variable {h : Nat} {A B C E ca qu : Nat → Int32}
theorem qy_edge {post : SY → Prop} {hd : Int32} {st en rm fl : Nat → Int32} {n x y z : Nat} {x' y' z' : Int32} (hn : n < 170) (hx : x' = nI x) (hy : y' = nI y) (hz : z' = nI z)
    (K : post (hd, nI (n + 1), A, B, C, E, upd st n (nI x), upd en n (nI y), upd rm n (nI z), upd fl n 0, ca, qu)) : wpY_edge post (hd, nI n, A, B, C, E, st, en, rm, fl, ca, qu) x' y' z' := by
  subst hx hy hz
  have e : (nI n).toNatClampNeg = n := nI_clamp (by omega)
  have w : vp_in (nI n) 170 := vp_in_nI hn (by omega)
  exact ⟨w, nm_r (e' := upd st n (nI x)) (by rw [e]) ⟨w, nm_r (e' := upd en n (nI y)) (by rw [e]) ⟨w, nm_r (e' := upd rm n (nI z)) (by rw [e]) ⟨w, nm_r (e' := upd fl n 0) (by rw [e]) (nm_r (nI_1 n) K)⟩⟩⟩⟩
theorem qy_13 (p m : Nat) : (13 : Int32) * nI p + nI m = nI (13 * p + m) := by
  rw [show (13 : Int32) = nI 13 from rfl, pk_mul, nI_add]
theorem qy_102 {post : SY → Prop} {J94 : Int32 → Int32 → Int32 → (Nat → Int32) → (Nat → Int32) → (Nat → Int32) → (Nat → Int32) → (Nat → Int32) → (Nat → Int32) → (Nat → Int32) → (Nat → Int32) → (Nat → Int32) → (Nat → Int32) → Prop} {last p : Nat} {F T W D : Nat → Nat} (hl : last ≤ 12) (hp : p < 5)
    (K : ∀ n st en rm fl, n ≤ 104 + 12 * p + last → qb_B st en rm fl n (qb_GW h last F T W D p last) → J94 (nI (p + 1)) (nI h) (nI n) A B C E st en rm fl ca qu) :
    ∀ (d m n : Nat) (st en rm fl : Nat → Int32), m + d = last → n ≤ 104 + 12 * p + m → qb_B st en rm fl n (qb_GW h last F T W D p m) →
    wY_build_102 post J94 (nI last) (nI p) (d + 1) (nI m) (nI h) (nI n) A B C E st en rm fl ca qu := by
  intro d
  induction d with
  | zero =>
    intro m n st en rm fl hm hn hB
    have e : m = last := by omega
    subst e
    exact br_t (nI_le (Nat.le_refl _) (by omega)) (nm_r (nI_1 p) (K n st en rm fl hn hB))
  | succ d ih =>
    intro m n st en rm fl hm hn hB
    refine br_f (nI_ge (by omega) (by omega)) (qy_edge (by omega) (qy_13 p m) (by rw [qy_13, nI_1]) (show (100000 : Int32) = nI 100000 from rfl) (nm_r (nI_1 m) ?_))
    exact ih (m + 1) (n + 1) _ _ _ _ (by omega) (by omega) (qb_push hB _ _ _ (fun g => qb_GWs h last F T W D p m g))
theorem qy_94 {post : SY → Prop} {last : Nat} {F T W D : Nat → Nat} (hl : last ≤ 12)
    (K : ∀ n st en rm fl, n ≤ 164 → qb_B st en rm fl n (qb_GW h last F T W D 5 0) → post (nI h, nI n, A, B, C, E, st, en, rm, fl, ca, qu)) :
    ∀ (d p n : Nat) (st en rm fl : Nat → Int32), p + d = 5 → n ≤ 104 + 12 * p → qb_B st en rm fl n (qb_GW h last F T W D p 0) →
    wY_build_94 post (nI last) (d + 1) (nI p) (nI h) (nI n) A B C E st en rm fl ca qu := by
  intro d
  induction d with
  | zero =>
    intro p n st en rm fl hp hn hB
    have e : p = 5 := by omega
    subst e
    exact br_t (nI_le (Nat.le_refl 5) (by omega)) (K n st en rm fl (by omega) hB)
  | succ d ih =>
    intro p n st en rm fl hp hn hB
    refine br_f (nI_ge (b := 5) (by omega) (by omega)) ⟨last + 1, ?_⟩
    exact qy_102 hl (by omega) (fun n' st' en' rm' fl' hn' hB' => ih (p + 1) n' st' en' rm' fl' (by omega) (by omega) (qb_cg hB' (fun g => qb_GWn h last F T W D p g))) last 0 n st en rm fl (by omega) (by omega) hB
theorem qy_34 {post : SY → Prop} {J7 : Int32 → Int32 → Int32 → (Nat → Int32) → (Nat → Int32) → (Nat → Int32) → (Nat → Int32) → (Nat → Int32) → (Nat → Int32) → (Nat → Int32) → (Nat → Int32) → (Nat → Int32) → (Nat → Int32) → Prop} {tm x4 : Int32} {last i : Nat} {F T W D : Nat → Nat} (hl : last ≤ 12) (hi : i < 8) (h4 : x4 = nI (D i)) (hD : D i ≤ 3)
    (hA : A i = nI (F i)) (hB' : B i = nI (T i)) (hC : C i = nI (W i))
    (K : ∀ n st en rm fl, n ≤ 13 * (i + 1) → qb_B st en rm fl n (qb_GL last F T W D i (last + 1 - D i)) → J7 (nI (i + 1)) (nI h) (nI n) A B C E st en rm fl ca qu) :
    ∀ (d m n : Nat) (st en rm fl : Nat → Int32), m + d = last + 1 - D i → n ≤ 13 * i + m → qb_B st en rm fl n (qb_GL last F T W D i m) →
    wY_build_34 post J7 (nI last) tm (nI i) x4 (d + 1) (nI m) (nI h) (nI n) A B C E st en rm fl ca qu := by
  subst h4
  intro d
  induction d with
  | zero =>
    intro m n st en rm fl hm hn hB
    have e : m = last + 1 - D i := by omega
    refine br_t (by rw [nI_add]; exact nI_lt (by omega) (by omega)) (nm_r (nI_1 i) (K n st en rm fl (by omega) ?_))
    rw [← e]
    exact hB
  | succ d ih =>
    intro m n st en rm fl hm hn hB
    have ci : (nI i).toNatClampNeg = i := nI_clamp (by omega)
    have vi : vp_in (nI i) 8 := vp_in_nI hi (by omega)
    refine br_f (by rw [nI_add]; exact nI_nlt (by omega) (by omega)) ⟨vi, vi, vi, qy_edge (x := 13 * F i + m) (y := 13 * T i + m + D i) (z := W i) (by omega) (by rw [ci, hA, qy_13]) (by rw [ci, hB', qy_13, nI_add]) (by rw [ci, hC]) (nm_r (nI_1 m) ?_)⟩
    exact ih (m + 1) (n + 1) _ _ _ _ (by omega) (by omega) (qb_push hB _ _ _ (fun g => qb_GLs last F T W D i m g))
theorem qy_7 {post : SY → Prop} {tm : Int32} {last : Nat} {F T W D : Nat → Nat} (hl : last ≤ 12) (hh : h ≤ 8) (hq : qs_ok h F T W D)
    (hA : ∀ i, i < h → A i = nI (F i) ∧ B i = nI (T i) ∧ C i = nI (W i) ∧ (tm = 0 → D i = 0) ∧ (¬ tm = 0 → E i = nI (D i)))
    (K : ∀ n st en rm fl, n ≤ 164 → qb_B st en rm fl n (qb_GW h last F T W D 5 0) → post (nI h, nI n, A, B, C, E, st, en, rm, fl, ca, qu)) :
    ∀ (d i n : Nat) (st en rm fl : Nat → Int32), i + d = h → n ≤ 13 * i → qb_B st en rm fl n (qb_GL last F T W D i 0) →
    wY_build_7 post (nI last) tm (d + 1) (nI i) (nI h) (nI n) A B C E st en rm fl ca qu := by
  intro d
  induction d with
  | zero =>
    intro i n st en rm fl hi hn hB
    have e : i = h := by omega
    subst e
    refine br_t (nI_le (Nat.le_refl _) (by omega)) ⟨6, ?_⟩
    exact qy_94 hl K 5 0 n st en rm fl (by omega) (by omega) (qb_cg hB (fun g => qb_GLW i last F T W D g))
  | succ d ih =>
    intro i n st en rm fl hi hn hB
    obtain ⟨a1, a2, a3, a4, a5⟩ := hA i (by omega)
    obtain ⟨_, _, _, hD⟩ := hq i (by omega)
    have ci : (nI i).toNatClampNeg = i := nI_clamp (by omega)
    have vi : vp_in (nI i) 8 := vp_in_nI (by omega) (by omega)
    have key : ∀ x4 : Int32, x4 = nI (D i) → wY_build_34 post (wY_build_7 post (nI last) tm (d + 1)) (nI last) tm (nI i) x4 (last + 1 - D i + 1) (nI 0) (nI h) (nI n) A B C E st en rm fl ca qu := by
      intro x4 h4
      exact qy_34 hl (by omega) h4 hD a1 a2 a3 (fun n' st' en' rm' fl' hn' hB' => ih (i + 1) n' st' en' rm' fl' (by omega) (by omega) (qb_cg hB' (fun g => qb_GLn last F T W D i g))) (last + 1 - D i) 0 n st en rm fl (by omega) (by omega) hB
    refine br_f (nI_ge (by omega) (by omega)) ?_
    by_cases z : tm = 0
    · exact br_t z ⟨_, key 0 (by rw [a4 z]; rfl)⟩
    · exact br_f z ⟨vi, nm_e ⟨_, key _ (by rw [ci]; exact a5 z)⟩⟩
theorem qy_build {post : SY → Prop} {ed tm : Int32} {st en rm fl : Nat → Int32} {last : Nat} {F T W D : Nat → Nat} (hl : last ≤ 12) (hh : h ≤ 8) (hq : qs_ok h F T W D)
    (hA : ∀ i, i < h → A i = nI (F i) ∧ B i = nI (T i) ∧ C i = nI (W i) ∧ (tm = 0 → D i = 0) ∧ (¬ tm = 0 → E i = nI (D i)))
    (K : ∀ n s d c st en rm fl, n ≤ 164 → (∀ e, e < n → st e = nI (s e) ∧ en e = nI (d e) ∧ rm e = nI (c e) ∧ fl e = 0) → qs_Gr h last F T W D n s d c → post (nI h, nI n, A, B, C, E, st, en, rm, fl, ca, qu)) :
    wpY_build post (nI h, ed, A, B, C, E, st, en, rm, fl, ca, qu) (nI last) tm := by
  refine ⟨h + 1, qy_7 hl hh hq hA (fun n st en rm fl hn hB => ?_) h 0 0 st en rm fl (by omega) (by omega) (qb_0 (fun g => qb_GL0 last F T W D g))⟩
  obtain ⟨s, d, c, h1, h2⟩ := qb_end hB
  exact K n s d c st en rm fl hn h1 h2
end QY
end
section
/-! the reference's walks: the search -/
section QZ
variable {A B C E st en rm fl : Nat → Int32} {post : Int32 → SY → Prop}
  {J41 J49 : Int32 → Int32 → (Nat → Int32) → (Nat → Int32) → (Nat → Int32) → (Nat → Int32) → (Nat → Int32) → (Nat → Int32) → (Nat → Int32) → (Nat → Int32) → (Nat → Int32) → (Nat → Int32) → Prop}
  {n : Nat} {s d c f : Nat → Nat} {hd ed x1 : Int32}
theorem qz_217 {ca qu : Nat → Int32} {x3 val : Int32} {cnt e x : Nat} (hx : x < 65) (hc : cnt < 65) (K : J49 (nI (cnt + 1)) (nI (e + 1)) A B C E st en rm fl (upd ca x val) (upd qu cnt (nI x))) :
    wY_search_217 post J41 J49 x1 (nI cnt) x3 (nI e) (nI x) val (nI x) hd ed A B C E st en rm fl ca qu := by
  have e1 : (nI x).toNatClampNeg = x := nI_clamp (by omega)
  have e2 : (nI cnt).toNatClampNeg = cnt := nI_clamp (by omega)
  exact ⟨vp_in_nI hx (by omega), nm_r (e' := upd ca x val) (by rw [e1]) ⟨vp_in_nI hc (by omega), nm_r (e' := upd qu cnt (nI x)) (by rw [e2]) (nm_r (nI_1 cnt) (nm_r (nI_1 e) K))⟩⟩
theorem qz_159a {ca qu : Nat → Int32} {x3 z : Int32} {cnt e : Nat} (he : e < 170) (hen : en e = nI (d e)) (hx : d e < 65) (hc : cnt < 65) (K : J49 (nI (cnt + 1)) (nI (e + 1)) A B C E st en rm fl (upd ca (d e) (nI e)) (upd qu cnt (nI (d e)))) :
    wY_search_159 post J41 J49 x1 (nI cnt) x3 (nI e) 1 z hd ed A B C E st en rm fl ca qu := by
  have ve : vp_in (nI e) 170 := vp_in_nI he (by omega)
  have b : en (nI e).toNatClampNeg = nI (d e) := by rw [nI_clamp (by omega)]; exact hen
  unfold wY_search_159
  rw [b]
  exact br_f (by decide) ⟨ve, br_f (by decide) (br_f (by decide) (qz_217 hx hc K))⟩
theorem qz_159b {ca qu : Nat → Int32} {x3 : Int32} {cnt e : Nat} (he : e < 170) (hst : st e = nI (s e)) (hx : s e < 65) (hc : cnt < 65) (K : J49 (nI (cnt + 1)) (nI (e + 1)) A B C E st en rm fl (upd ca (s e) (nI (200 + e))) (upd qu cnt (nI (s e)))) :
    wY_search_159 post J41 J49 x1 (nI cnt) x3 (nI e) 0 1 hd ed A B C E st en rm fl ca qu := by
  have ve : vp_in (nI e) 170 := vp_in_nI he (by omega)
  have b : st (nI e).toNatClampNeg = nI (s e) := by rw [nI_clamp (by omega)]; exact hst
  have e200 : (200 : Int32) + nI e = nI (200 + e) := by rw [show (200 : Int32) = nI 200 from rfl, nI_add]
  rw [← e200] at K
  unfold wY_search_159
  rw [b]
  exact br_t rfl ⟨ve, br_t rfl (br_f (by decide) (br_t rfl (qz_217 hx hc K)))⟩
theorem qz_159c {ca qu : Nat → Int32} {x2 x3 : Int32} {e : Nat} (he : e < 170) (K : J49 x2 (nI (e + 1)) A B C E st en rm fl ca qu) :
    wY_search_159 post J41 J49 x1 x2 x3 (nI e) 0 0 hd ed A B C E st en rm fl ca qu := by
  have ve : vp_in (nI e) 170 := vp_in_nI he (by omega)
  exact br_t rfl ⟨ve, br_t rfl (br_t rfl (nm_r (nI_1 e) K))⟩
theorem qz_111 {ca qu : Nat → Int32} {x2 z : Int32} {i e u : Nat} (he : e < 170) (hi : i < 65) (hst : st e = nI (s e)) (hen : en e = nI (d e)) (hfl : fl e = nI (f e)) (hs : s e < 65) (hd' : d e < 65) (hf : f e ≤ 100000) (hqu : qu i = nI u) (hu : u < 65)
    (K1 : d e = u → 0 < f e → ca (s e) < 0 → wY_search_159 post J41 J49 x1 x2 (nI i) (nI e) z 1 hd ed A B C E st en rm fl ca qu)
    (K0 : (d e = u → 0 < f e → ¬ ca (s e) < 0) → wY_search_159 post J41 J49 x1 x2 (nI i) (nI e) z 0 hd ed A B C E st en rm fl ca qu) :
    wY_search_111 post J41 J49 x1 x2 (nI i) (nI e) z hd ed A B C E st en rm fl ca qu := by
  have ve : vp_in (nI e) 170 := vp_in_nI he (by omega)
  have vi : vp_in (nI i) 65 := vp_in_nI hi (by omega)
  have ce : (nI e).toNatClampNeg = e := nI_clamp (by omega)
  have ci : (nI i).toNatClampNeg = i := nI_clamp (by omega)
  have cs : (nI (s e)).toNatClampNeg = s e := nI_clamp (by omega)
  unfold wY_search_111 wY_search_158
  rw [ce, ci, hen, hqu, hfl, hst, cs]
  refine ⟨ve, vi, ?_⟩
  by_cases z1 : d e = u
  · refine br_t (congrArg nI z1) ⟨ve, ?_⟩
    by_cases z2 : 0 < f e
    · refine br_f (nI_nle z2 (by omega)) ⟨ve, vp_in_nI hs (by omega), ?_⟩
      by_cases z3 : ca (s e) < 0
      · exact br_f (fun y => absurd z3 (Int32.not_lt.mpr y)) (K1 z1 z2 z3)
      · exact br_t (Int32.not_lt.mp z3) (K0 (fun _ _ => z3))
    · have z4 : f e = 0 := by omega
      exact br_t (by rw [z4]; decide) (K0 (fun _ y => absurd y z2))
  · exact br_f (fun y => z1 ((nI_eq (by omega) (by omega)).mp y)) (K0 (fun y => absurd y z1))
end QZ
section QZ2
variable {A B C E st en rm fl : Nat → Int32} {post : Int32 → SY → Prop} {n : Nat} {s d c f : Nat → Nat} {hd : Int32}
theorem qz_49 {J41 : Int32 → Int32 → (Nat → Int32) → (Nat → Int32) → (Nat → Int32) → (Nat → Int32) → (Nat → Int32) → (Nat → Int32) → (Nat → Int32) → (Nat → Int32) → (Nat → Int32) → (Nat → Int32) → Prop} {x1 : Int32} {i : Nat}
    (hn : n ≤ 164) (hE : ∀ e, e < n → st e = nI (s e) ∧ en e = nI (d e) ∧ rm e = nI (c e) ∧ fl e = nI (f e)) (h65 : ∀ e, e < n → s e < 65 ∧ d e < 65) (hf : ∀ e, e < n → f e ≤ c e) (hc : ∀ e, e < n → c e ≤ 100000)
    (K : ∀ cnt ca qu, i < cnt → qr_I n s d c f ca qu cnt i n → J41 (nI cnt) (nI (i + 1)) A B C E st en rm fl ca qu) :
    ∀ (dd e cnt : Nat) (ca qu : Nat → Int32), e + dd = n → i < cnt → qr_I n s d c f ca qu cnt i e →
    wY_search_49 post J41 x1 (nI i) hd (nI n) (dd + 1) (nI cnt) (nI e) A B C E st en rm fl ca qu := by
  intro dd
  induction dd with
  | zero =>
    intro e cnt ca qu he hi hI
    have ee : e = n := by omega
    subst ee
    exact br_t (nI_le (Nat.le_refl _) (by omega)) (nm_r (nI_1 i) (K cnt ca qu hi hI))
  | succ dd ih =>
    intro e cnt ca qu he hi hI
    have hlt : e < n := by omega
    obtain ⟨a1, a2, a3, a4⟩ := hE e hlt
    obtain ⟨a5, a6⟩ := h65 e hlt
    have a7 := hf e hlt
    have a8 := hc e hlt
    have hc65 := qr_Icnt hI
    obtain ⟨u, hu, hqu, hru⟩ := qr_Iq hI hi
    have ve : vp_in (nI e) 170 := vp_in_nI (by omega) (by omega)
    have vi : vp_in (nI i) 65 := vp_in_nI (by omega) (by omega)
    have ce : (nI e).toNatClampNeg = e := nI_clamp (by omega)
    have ci : (nI i).toNatClampNeg = i := nI_clamp (by omega)
    have cd : (nI (d e)).toNatClampNeg = d e := nI_clamp (by omega)
    have hon : s e = u → f e < c e → ca (d e) < 0 → wY_search_111 post J41 (wY_search_49 post J41 x1 (nI i) hd (nI n) (dd + 1)) x1 (nI cnt) (nI i) (nI e) 1 hd (nI n) A B C E st en rm fl ca qu := by
      intro z1 z2 z3
      obtain ⟨b1, b2⟩ := qr_Inew hI h65 hi hqu hu hlt a6 z3 (nI_pos (n := e) (by omega)) (Or.inl ⟨rfl, z1, rfl, z2⟩)
      have nx := qz_159a (z := 1) (post := post) (J41 := J41) (x1 := x1) (x3 := nI i) (hd := hd) (ed := nI n) (show e < 170 from by omega) a2 a6 b1 (ih (e + 1) (cnt + 1) _ _ (by omega) (by omega) b2)
      have nx' := qz_159a (z := 0) (post := post) (J41 := J41) (x1 := x1) (x3 := nI i) (hd := hd) (ed := nI n) (show e < 170 from by omega) a2 a6 b1 (ih (e + 1) (cnt + 1) _ _ (by omega) (by omega) b2)
      exact qz_111 (by omega) (by omega) a1 a2 a4 a5 a6 (by omega) hqu hu (fun _ _ _ => nx) (fun _ => nx')
    have hoff : (s e = u → f e < c e → ¬ ca (d e) < 0) → wY_search_111 post J41 (wY_search_49 post J41 x1 (nI i) hd (nI n) (dd + 1)) x1 (nI cnt) (nI i) (nI e) 0 hd (nI n) A B C E st en rm fl ca qu := by
      intro z
      refine qz_111 (by omega) (by omega) a1 a2 a4 a5 a6 (by omega) hqu hu (fun z1 z2 z3 => ?_) (fun z' => ?_)
      · obtain ⟨b1, b2⟩ := qr_Inew hI h65 hi hqu hu hlt a5 z3 (nI_pos (n := 200 + e) (by omega)) (Or.inr ⟨rfl, z1, rfl, z2⟩)
        exact qz_159b (by omega) a1 a5 b1 (ih (e + 1) (cnt + 1) _ _ (by omega) (by omega) b2)
      · exact qz_159c (by omega) (ih (e + 1) cnt ca qu (by omega) hi (qr_Iskip hI hi hqu hu z z'))
    rw [wY_search_49]
    refine br_f (nI_ge hlt (by omega)) ?_
    rw [ce, ci, a1, a2, a3, a4, hqu, cd]
    refine ⟨ve, vi, ?_⟩
    by_cases z1 : s e = u
    · refine br_t (congrArg nI z1) ⟨ve, ve, ?_⟩
      by_cases z2 : f e < c e
      · refine br_f (nI_ge z2 (by omega)) ⟨ve, vp_in_nI a6 (by omega), ?_⟩
        by_cases z3 : ca (d e) < 0
        · exact br_f (fun y => absurd z3 (Int32.not_lt.mpr y)) (hon z1 z2 z3)
        · exact br_t (Int32.not_lt.mp z3) (hoff (fun _ _ => z3))
      · exact br_t (nI_le (by omega) (by omega)) (hoff (fun _ y => absurd y z2))
    · exact br_f (fun y => z1 ((nI_eq (by omega) (by omega)).mp y)) (hoff (fun y => absurd y z1))
theorem qz_41 {h goal : Nat} (hn : n ≤ 164) (hE : ∀ e, e < n → st e = nI (s e) ∧ en e = nI (d e) ∧ rm e = nI (c e) ∧ fl e = nI (f e)) (h65 : ∀ e, e < n → s e < 65 ∧ d e < 65) (hf : ∀ e, e < n → f e ≤ c e) (hc : ∀ e, e < n → c e ≤ 100000) (hg : goal < 65)
    (K : ∀ ca qu, (∃ o, qr_T n s d c f ca o) → (∀ e, e < n → ¬ ca (s e) < 0 → f e < c e → ¬ ca (d e) < 0) → (∀ e, e < n → ¬ ca (d e) < 0 → 0 < f e → ¬ ca (s e) < 0) → ¬ ca 0 < 0 →
      (ca goal < 0 → post 0 (nI h, nI n, A, B, C, E, st, en, rm, fl, ca, qu)) ∧ (¬ ca goal < 0 → post 1 (nI h, nI n, A, B, C, E, st, en, rm, fl, ca, qu))) :
    ∀ (dd i cnt : Nat) (ca qu : Nat → Int32), i + dd = 65 → i ≤ cnt → qr_I n s d c f ca qu cnt i 0 →
    wY_search_41 post (nI goal) (nI h) (nI n) (dd + 1) (nI cnt) (nI i) A B C E st en rm fl ca qu := by
  have vg : vp_in (nI goal) 65 := vp_in_nI hg (by omega)
  have cg : (nI goal).toNatClampNeg = goal := nI_clamp (by omega)
  have hend : ∀ (m cnt : Nat) (ca qu : Nat → Int32), cnt ≤ 65 → qr_I n s d c f ca qu cnt cnt 0 → wY_search_41 post (nI goal) (nI h) (nI n) (m + 1) (nI cnt) (nI cnt) A B C E st en rm fl ca qu := by
    intro m cnt ca qu h5 hI
    obtain ⟨h1, h2, h3, h4⟩ := qr_Iend hI h65
    rw [wY_search_41]
    refine br_t (nI_le (Nat.le_refl _) (by omega)) ⟨vg, ?_⟩
    rw [cg]
    exact K ca qu h1 h2 h3 h4
  intro dd
  induction dd with
  | zero =>
    intro i cnt ca qu hi hic hI
    have h5 := qr_Icnt hI
    have e : i = cnt := by omega
    subst e
    exact hend 0 i ca qu h5 hI
  | succ dd ih =>
    intro i cnt ca qu hi hic hI
    have h5 := qr_Icnt hI
    by_cases e : i = cnt
    · subst e
      exact hend _ i ca qu h5 hI
    · rw [wY_search_41]
      refine br_f (nI_ge (by omega) (by omega)) ⟨n + 1, ?_⟩
      exact qz_49 hn hE h65 hf hc (fun cnt' ca' qu' hi' hI' => ih (i + 1) cnt' ca' qu' (by omega) (by omega) (qr_Inext hI')) n 0 cnt ca qu (by omega) (by omega) hI
theorem qz_search {h goal : Nat} {ca qu : Nat → Int32} (hn : n ≤ 164) (hE : ∀ e, e < n → st e = nI (s e) ∧ en e = nI (d e) ∧ rm e = nI (c e) ∧ fl e = nI (f e)) (h65 : ∀ e, e < n → s e < 65 ∧ d e < 65) (hf : ∀ e, e < n → f e ≤ c e) (hc : ∀ e, e < n → c e ≤ 100000) (hg : goal < 65)
    (K : ∀ ca qu, (∃ o, qr_T n s d c f ca o) → (∀ e, e < n → ¬ ca (s e) < 0 → f e < c e → ¬ ca (d e) < 0) → (∀ e, e < n → ¬ ca (d e) < 0 → 0 < f e → ¬ ca (s e) < 0) → ¬ ca 0 < 0 →
      (ca goal < 0 → post 0 (nI h, nI n, A, B, C, E, st, en, rm, fl, ca, qu)) ∧ (¬ ca goal < 0 → post 1 (nI h, nI n, A, B, C, E, st, en, rm, fl, ca, qu))) :
    wpY_search post (nI h, nI n, A, B, C, E, st, en, rm, fl, ca, qu) (nI goal) := by
  have main : ∀ (dd v : Nat) (ca : Nat → Int32), v + dd = 65 → (∀ w, w < v → ca w = -1) → wY_search_2 post (nI goal) (nI h) (nI n) (dd + 1) (nI v) A B C E st en rm fl ca qu := by
    intro dd
    induction dd with
    | zero =>
      intro v ca hv hca
      have e : v = 65 := by omega
      subst e
      refine br_t (nI_le (Nat.le_refl 65) (by omega)) (nm_e (nm_e ⟨66, ?_⟩))
      exact qz_41 hn hE h65 hf hc hg K 65 0 1 _ _ (by omega) (by omega) (qr_I0 hca)
    | succ dd ih =>
      intro v ca hv hca
      have cv : (nI v).toNatClampNeg = v := nI_clamp (by omega)
      refine br_f (nI_ge (b := 65) (by omega) (by omega)) ⟨vp_in_nI (by omega) (by omega), nm_r (e' := upd ca v (-1)) (by rw [cv]) (nm_r (nI_1 v) (ih (v + 1) _ (by omega) (fun w hw => ?_)))⟩
      by_cases e : w = v
      · rw [e, pk_us]
      · rw [pk_un e]; exact hca w (by omega)
  exact ⟨66, main 65 0 ca (by omega) (fun w hw => absurd hw (by omega))⟩
end QZ2
end
section
/-! the reference's walks: the sending, the flow, the first moment -/
section QW
variable {A B C E st en rm : Nat → Int32} {n : Nat} {s d c : Nat → Nat} {h : Nat}
theorem qw_send {post : SY → Prop} {k goal : Nat} {ca qu : Nat → Int32} {o : Nat → Nat} (hn : n ≤ 164) (hE : ∀ e, e < n → st e = nI (s e) ∧ en e = nI (d e)) (h65 : ∀ e, e < n → s e < 65 ∧ d e < 65) (hc : ∀ e, e < n → c e ≤ 100000)
    (K : ∀ (f : Nat → Nat) (fl : Nat → Int32), (∀ e, e < n → fl e = nI (f e)) → (∀ e, e < n → f e ≤ c e) → qs_Fl n s d f ((k + 1 : Nat) : Int) goal → post (nI h, nI n, A, B, C, E, st, en, rm, fl, ca, qu)) :
    ∀ (m cur : Nat) (f : Nat → Nat) (fl : Nat → Int32), o cur < m → (∀ e, e < n → fl e = nI (f e)) → qr_S n s d c f ca o cur k goal →
    wY_send_2 post (nI h) (nI n) m (nI cur) A B C E st en rm fl ca qu := by
  intro m
  induction m with
  | zero => intro cur f fl ho; omega
  | succ m ih =>
    intro cur f fl ho hfl hS
    by_cases z : cur = 0
    · subst z
      exact br_t rfl (K f fl hfl hS.2.2.1 (qr_Send hS))
    · have h1 := hS.1
      have cc : (nI cur).toNatClampNeg = cur := nI_clamp (by omega)
      obtain ⟨e, he, hor⟩ := qr_Sstep h65 hS z
      obtain ⟨a1, a2⟩ := hE e he
      have a3 := hfl e he
      have a4 := hc e he
      have a5 := hS.2.2.1 e he
      have ve : vp_in (nI e) 170 := vp_in_nI (by omega) (by omega)
      have ce : (nI e).toNatClampNeg = e := nI_clamp (by omega)
      refine br_f (nI_ne0 (by omega) (by omega)) ⟨vp_in_nI h1 (by omega), ?_⟩
      rcases hor with ⟨b1, b2, b3, b4⟩ | ⟨b1, b2, b3, b4⟩
      · refine nm_r (e' := nI e) (by rw [cc]; exact b1) (br_f (nI_ge (b := 200) (by omega) (by omega)) ⟨ve, ve, nm_r (e' := upd fl e (nI (f e + 1))) (by rw [ce, a3, nI_1]) ⟨ve, nm_r (e' := nI (s e)) (by rw [ce]; exact a1) ?_⟩⟩)
        refine ih (s e) _ _ (by omega) (fun j hj => ?_) b4
        by_cases y : j = e
        · rw [y, pk_us, qr_us]
        · rw [pk_un y, qr_un y]; exact hfl j hj
      · have e200 : nI (200 + e) - 200 = nI e := by
          rw [show (200 : Int32) = nI 200 from rfl, pk_sub (by omega), show 200 + e - 200 = e from by omega]
        have e1 : nI (f e) - 1 = nI (f e - 1) := by
          rw [show (1 : Int32) = nI 1 from rfl, pk_sub (by omega)]
        refine nm_r (e' := nI (200 + e)) (by rw [cc]; exact b1) (br_t (nI_le (a := 200) (by omega) (by omega)) ?_)
        rw [e200]
        refine ⟨ve, ve, nm_r (e' := upd fl e (nI (f e - 1))) (by rw [ce, a3, e1]) ⟨ve, nm_r (e' := nI (d e)) (by rw [ce]; exact a2) ?_⟩⟩
        refine ih (d e) _ _ (by omega) (fun j hj => ?_) b4
        by_cases y : j = e
        · rw [y, pk_us, qr_us]
        · rw [pk_un y, qr_un y]; exact hfl j hj
theorem qw_flow14 {post : Int32 → SY → Prop} {last : Nat} {F T W D : Nat → Nat} (hl : last ≤ 12) (hh : h ≤ 8) (hq : qs_ok h F T W D) (G : qs_Gr h last F T W D n s d c) (hn : n ≤ 164)
    (hE : ∀ e, e < n → st e = nI (s e) ∧ en e = nI (d e) ∧ rm e = nI (c e))
    (K : ∀ (v : Nat) (fl ca qu : Nat → Int32), qs_Min h F T W D (last + 1) v → post (nI v) (nI h, nI n, A, B, C, E, st, en, rm, fl, ca, qu)) :
    ∀ (dd k : Nat) (f : Nat → Nat) (fl ca qu : Nat → Int32), k + dd = 1000 → (∀ e, e < n → fl e = nI (f e)) → (∀ e, e < n → f e ≤ c e) → qs_Fl n s d f (k : Int) (52 + last) →
    wY_flow_14 post (nI (52 + last)) (dd + 1) (nI k) (nI h) (nI n) A B C E st en rm fl ca qu := by
  have hends := qs_ends G hq hl
  have h65 : ∀ e, e < n → s e < 65 ∧ d e < 65 := fun e he => ⟨(hends e he).1, (hends e he).2.1⟩
  have hc : ∀ e, e < n → c e ≤ 100000 := fun e he => (hends e he).2.2
  intro dd
  induction dd with
  | zero =>
    intro k f fl ca qu hk hfl hf hF
    have := qs_520 G hq hh hl hf hF
    omega
  | succ dd ih =>
    intro k f fl ca qu hk hfl hf hF
    have hk5 := qs_520 G hq hh hl hf hF
    refine br_f (nI_ge (b := 1000) (by omega) (by omega)) (qz_search hn (fun e he => ⟨(hE e he).1, (hE e he).2.1, (hE e he).2.2, hfl e he⟩) h65 hf hc (by omega) ?_)
    intro ca' qu' hT h1 h2 h0
    refine ⟨fun z => br_t rfl (K k fl ca' qu' ?_), fun z => br_f (by decide) ?_⟩
    · refine qs_mfmc (R := fun v => !decide (ca' v < 0)) G hq hh hl hf hF ?_ ?_ ?_ ?_ (by omega)
      · show (!decide (ca' 0 < 0)) = true
        rw [decide_eq_false h0]; rfl
      · show (!decide (ca' (52 + last) < 0)) = false
        rw [decide_eq_true z]; rfl
      · intro e he r1 r2 r3
        have r1' : (!decide (ca' (s e) < 0)) = true := r1
        have r2' : (!decide (ca' (d e) < 0)) = false := r2
        have q1 : ¬ ca' (s e) < 0 := fun y => by rw [decide_eq_true y] at r1'; exact absurd r1' (by decide)
        have q2 := h1 e he q1 r3
        rw [decide_eq_false q2] at r2'
        exact absurd r2' (by decide)
      · intro e he r1 r2 r3
        have r1' : (!decide (ca' (d e) < 0)) = true := r1
        have r2' : (!decide (ca' (s e) < 0)) = false := r2
        have q1 : ¬ ca' (d e) < 0 := fun y => by rw [decide_eq_true y] at r1'; exact absurd r1' (by decide)
        have q2 := h2 e he q1 r3
        rw [decide_eq_false q2] at r2'
        exact absurd r2' (by decide)
    · obtain ⟨o, hT⟩ := hT
      refine ⟨o (52 + last) + 1, qw_send hn (fun e he => ⟨(hE e he).1, (hE e he).2.1⟩) h65 hc ?_ _ (52 + last) f fl (by omega) hfl (qr_S0 hT (by omega) z hf hF)⟩
      intro f' fl' hfl' hf' hF'
      exact nm_r (nI_1 k) (ih (k + 1) f' fl' ca' qu' (by omega) hfl' hf' hF')
end QW
section QV
variable {A B C E st en rm fl ca qu : Nat → Int32} {h : Nat}
theorem qw_flow {post : Int32 → SY → Prop} {ed tm : Int32} {last : Nat} {F T W D : Nat → Nat} (hl : last ≤ 12) (hh : h ≤ 8) (hq : qs_ok h F T W D)
    (hA : ∀ i, i < h → A i = nI (F i) ∧ B i = nI (T i) ∧ C i = nI (W i) ∧ (tm = 0 → D i = 0) ∧ (¬ tm = 0 → E i = nI (D i)))
    (K : ∀ (ed : Int32) (st en rm fl ca qu : Nat → Int32), post (nI (qm_v h F T W D (last + 1))) (nI h, ed, A, B, C, E, st, en, rm, fl, ca, qu)) :
    wpY_flow post (nI h, ed, A, B, C, E, st, en, rm, fl, ca, qu) (nI last) tm := by
  refine qy_build (ed := ed) hl hh hq hA ?_
  intro n s d c st' en' rm' fl' hn hE G
  refine nm_r (e' := nI (52 + last)) (by rw [show (52 : Int32) = nI 52 from rfl, nI_add]) ⟨1001, ?_⟩
  refine qw_flow14 hl hh hq G hn (fun e he => ⟨(hE e he).1, (hE e he).2.1, (hE e he).2.2.1⟩) (fun v fl ca qu hM => ?_) 1000 0 (fun _ => 0) fl' ca qu (by omega) (fun e he => (hE e he).2.2.2) (fun e _ => Nat.zero_le _) qb_Fl0
  rw [qm_is hM]
  exact K _ _ _ _ _ _ _
/-- the flow over the lines as they are held, one of them perhaps one wider -/
theorem qw_flow0 {post : Int32 → SY → Prop} {ed tm : Int32} {last : Nat} (hok : qv_ok h A B C E) (hl : last ≤ 12) (hh : h ≤ 8)
    (K : ∀ (ed : Int32) (st en rm fl ca qu : Nat → Int32), post (nI (qm_v h (qv_n A) (qv_n B) (qv_W C (-1)) (qv_D E tm) (last + 1))) (nI h, ed, A, B, C, E, st, en, rm, fl, ca, qu)) :
    wpY_flow post (nI h, ed, A, B, C, E, st, en, rm, fl, ca, qu) (nI last) tm := by
  refine qw_flow hl hh (qv_qs hok (-1) tm) (fun i hi => ?_) K
  obtain ⟨a1, a2, a3, a4, _⟩ := qv_at hok hi
  refine ⟨a1, a2, ?_, fun z => qv_D0 z, fun z => ?_⟩
  · rw [qv_W0 (qv_m1 (by omega))]; exact a3
  · rw [qv_D1 z]; exact a4
theorem qw_flow1 {post : Int32 → SY → Prop} {ed tm : Int32} {last j : Nat} (hok : qv_ok h A B C E) (hl : last ≤ 12) (hh : h ≤ 8) (hj : j < h)
    (K : ∀ (ed : Int32) (st en rm fl ca qu : Nat → Int32), post (nI (qm_v h (qv_n A) (qv_n B) (qv_W C (nI j)) (qv_D E tm) (last + 1))) (nI h, ed, A, B, upd C j (C j + 1), E, st, en, rm, fl, ca, qu)) :
    wpY_flow post (nI h, ed, A, B, upd C j (C j + 1), E, st, en, rm, fl, ca, qu) (nI last) tm := by
  refine qw_flow hl hh (qv_qs hok (nI j) tm) (fun i hi => ?_) K
  obtain ⟨a1, a2, a3, a4, _⟩ := qv_at hok hi
  refine ⟨a1, a2, ?_, fun z => qv_D0 z, fun z => ?_⟩
  · by_cases e : i = j
    · rw [e] at a3
      rw [e, pk_us, qv_W1 rfl, a3, nI_1]
    · rw [pk_un e, qv_W0 (fun z => e ((nI_eq (by omega) (by omega)).mp z))]; exact a3
  · rw [qv_D1 z]; exact a4
theorem qw_quick {post : Int32 → SY → Prop} {amt : Int32} (hok : qv_ok h A B C E) (hh : h ≤ 8) :
    ∀ (d t : Nat) (ed : Int32) (st en rm fl ca qu : Nat → Int32), t + d = 13 → (∀ ed st en rm fl ca qu, post (qm_f (fun t => qm_v h (qv_n A) (qv_n B) (qv_W C (-1)) (qv_D E 1) (t + 1)) amt d t) (nI h, ed, A, B, C, E, st, en, rm, fl, ca, qu)) →
    wY_quickest_2 post amt (d + 1) (nI t) (nI h) ed A B C E st en rm fl ca qu := by
  intro d
  induction d with
  | zero =>
    intro t ed st en rm fl ca qu ht K
    have e : t = 13 := by omega
    subst e
    exact br_t (by decide) (K _ _ _ _ _ _ _)
  | succ d ih =>
    intro t ed st en rm fl ca qu ht K
    refine br_f (nI_nlt (a := 12) (by omega) (by omega)) (qw_flow0 hok (by omega) hh (fun ed st en rm fl ca qu => ?_))
    by_cases z : nI (qm_v h (qv_n A) (qv_n B) (qv_W C (-1)) (qv_D E 1) (t + 1)) < amt
    · rw [qm_f1 (val := fun t => qm_v h (qv_n A) (qv_n B) (qv_W C (-1)) (qv_D E 1) (t + 1)) (t := t) z] at K
      exact br_t z (nm_r (nI_1 t) (ih (t + 1) _ _ _ _ _ _ _ (by omega) K))
    · rw [qm_f0 (val := fun t => qm_v h (qv_n A) (qv_n B) (qv_W C (-1)) (qv_D E 1) (t + 1)) (t := t) z] at K
      exact br_f z (K _ _ _ _ _ _ _)
end QV
end
section
/-! the relation and the owed statements -/
/-- both hold the same lines, each within its ranges; all else is free -/
def i_Rel (k : Nat) (u : SX) (v : SY) : Prop :=
  ∃ (h : Nat) (A B C E S st en rm fl ca qu : Nat → Int32) (ed : Int32), h ≤ 8 ∧ qv_ok h A B C E ∧ u = (nI h, A, B, C, E, S) ∧ v = (nI h, ed, A, B, C, E, st, en, rm, fl, ca, qu)
theorem i_up {k : Nat} {u : SX} {v : SY} (h : i_Rel k u v) : i_Rel (k + 5) u v := h
theorem i_vc0 : wpX_init (fun u => wpY_init (fun v => i_Rel 0 u v)) :=
  ⟨0, _, _, _, _, _, _, _, _, _, _, _, _, Nat.zero_le _, fun j hj => absurd hj (by omega), rfl, rfl⟩
theorem qi_rel {k h : Nat} {A B C E S st en rm fl ca qu : Nat → Int32} {ed : Int32} (hh : h ≤ 8) (hok : qv_ok h A B C E) : i_Rel k (nI h, A, B, C, E, S) (nI h, ed, A, B, C, E, st, en, rm, fl, ca, qu) :=
  ⟨h, A, B, C, E, S, st, en, rm, fl, ca, qu, ed, hh, hok, rfl, rfl⟩
theorem qi_ix (x : Int32) {n : Nat} (hn : n + 1 < 2 ^ 31) : x < 0 ∨ (¬ x < 0 ∧ ¬ x ≤ nI n ∧ nI n < x ∧ nI (n + 1) ≤ x) ∨ ∃ j, j ≤ n ∧ x = nI j := by
  by_cases h : x < 0
  · exact Or.inl h
  · obtain ⟨j, hj, rfl⟩ := nI_of h
    by_cases h2 : j ≤ n
    · exact Or.inr (Or.inr ⟨j, h2, rfl⟩)
    · exact Or.inr (Or.inl ⟨h, fun z => h2 ((nI_leI hj (by omega)).mp z), nI_lt (by omega) hj, nI_le (by omega) hj⟩)
/-! add -/
def qi_ok (h : Nat) (v1 v2 v3 v4 : Int32) : Prop := h < 8 ∧ ¬ v1 = v2 ∧ ∃ f t w d : Nat, v1 = nI f ∧ v2 = nI t ∧ v3 = nI w ∧ v4 = nI d ∧ f < 5 ∧ t < 5 ∧ 1 ≤ w ∧ w ≤ 4 ∧ d ≤ 3
theorem qi_place {post : Int32 → Prop} {u : SX} {p : Int32} (K1 : ∀ f, f < 5 → p = nI f → post 1) (K0 : (∀ f, f < 5 → ¬ p = nI f) → post 0) : wpX_isPlace post u p := by
  obtain ⟨a, b, c, d, e, g⟩ := u
  rcases qi_ix p (n := 4) (by omega) with z | ⟨z1, z2, z3, z4⟩ | ⟨j, hj, rfl⟩
  · exact br_t z (K0 (fun f hf e => absurd (e ▸ z) (nI_pos (n := f) (by omega))))
  · exact br_f z1 (br_t z4 (K0 (fun f hf e => z2 (e ▸ nI_le (by omega) (by omega)))))
  · exact br_f (nI_pos (by omega)) (br_f (nI_ge (b := 5) (by omega) (by omega)) (K1 j (by omega) rfl))
theorem qi_bad {post : Int32 → Prop} {p : Int32} (K1 : ∀ f, f < 5 → p = nI f → post 0) (K0 : (∀ f, f < 5 → ¬ p = nI f) → post 1) : wpY_badPlace post p := by
  rcases qi_ix p (n := 4) (by omega) with z | ⟨z1, z2, z3, z4⟩ | ⟨j, hj, rfl⟩
  · exact br_t z (K0 (fun f hf e => absurd (e ▸ z) (nI_pos (n := f) (by omega))))
  · exact br_f z1 (br_f z2 (K0 (fun f hf e => z2 (e ▸ nI_le (by omega) (by omega)))))
  · exact br_f (nI_pos (by omega)) (br_t (nI_le (b := 4) (by omega) (by omega)) (K1 j (by omega) rfl))
/-- width and time: refused, or within -/
theorem qi_wt {v3 v4 : Int32} {P0 P1 : Prop} (K1 : ∀ w d, v3 = nI w → v4 = nI d → 1 ≤ w → w ≤ 4 → d ≤ 3 → P1) (K0 : (∀ w d, v3 = nI w → v4 = nI d → 1 ≤ w → w ≤ 4 → d ≤ 3 → False) → P0) :
    ((v3 < 1 → P0) ∧ (¬ v3 < 1 → (((4 < v3 → P0) ∧ (¬ 4 < v3 → (((v4 < 0 → P0) ∧ (¬ v4 < 0 → (((v4 ≤ 3 → P1) ∧ (¬ v4 ≤ 3 → P0))))))))))) := by
  by_cases z1 : v3 < 1
  · exact br_t z1 (K0 (fun w d e _ h1 _ _ => by
      rw [e] at z1
      exact absurd z1 (nI_nlt (b := 1) h1 (by omega))))
  · refine br_f z1 ?_
    by_cases z2 : 4 < v3
    · exact br_t z2 (K0 (fun w d e _ _ h4 _ => by
        rw [e] at z2
        exact absurd z2 (nI_nlt (a := 4) h4 (by omega))))
    · refine br_f z2 ?_
      by_cases z3 : v4 < 0
      · exact br_t z3 (K0 (fun w d _ e _ _ h3 => by
          rw [e] at z3
          exact absurd z3 (nI_pos (by omega))))
      · refine br_f z3 ?_
        by_cases z4 : v4 ≤ 3
        · refine br_t z4 ?_
          have z5 : ¬ v3 < 0 := fun y => z1 (Int32.lt_trans y (by decide))
          obtain ⟨w, hw, rfl⟩ := nI_of z5
          obtain ⟨d, hd, rfl⟩ := nI_of z3
          have w1 : 1 ≤ w := by
            by_cases y : 1 ≤ w
            · exact y
            · exact absurd (nI_lt (b := 1) (by omega) (by omega)) z1
          have w4 : w ≤ 4 := by
            by_cases y : w ≤ 4
            · exact y
            · exact absurd (nI_lt (a := 4) (by omega) hw) z2
          have d3 : d ≤ 3 := by
            by_cases y : d ≤ 3
            · exact y
            · exact absurd z4 (nI_ge (a := 3) (by omega) hd)
          exact K1 w d rfl rfl w1 w4 d3
        · exact br_f z4 (K0 (fun w d _ e _ _ h3 => by
            rw [e] at z4
            exact z4 (nI_le (b := 3) h3 (by omega))))
theorem qi_xadd {post : Int32 → SX → Prop} {h : Nat} {A B C E S : Nat → Int32} {v1 v2 v3 v4 : Int32} (hh : h ≤ 8)
    (K1 : qi_ok h v1 v2 v3 v4 → post (nI (h + 1)) (nI (h + 1), upd A h v1, upd B h v2, upd C h v3, upd E h v4, S))
    (K0 : ¬ qi_ok h v1 v2 v3 v4 → post (-1) (nI h, A, B, C, E, S)) : wpX_add post (nI h, A, B, C, E, S) v1 v2 v3 v4 := by
  by_cases z : h < 8
  · refine br_f (nI_ge (b := 8) z (by omega)) (qi_place (fun f hf e1 => br_f (by decide) (qi_place (fun t ht e2 => br_f (by decide) ?_) (fun y => br_t rfl (K0 ?_)))) (fun y => br_t rfl (K0 ?_)))
    · by_cases z0 : v1 = v2
      · exact br_t z0 (K0 (fun y => y.2.1 z0))
      · refine br_f z0 (qi_wt (fun w d e3 e4 h1 h4 h3 => ?_) (fun y => K0 ?_))
        · have ch : (nI h).toNatClampNeg = h := nI_clamp (by omega)
          have vh : vp_in (nI h) 8 := vp_in_nI z (by omega)
          have k1 := K1 ⟨z, z0, f, t, w, d, e1, e2, e3, e4, hf, ht, h1, h4, h3⟩
          exact ⟨vh, nm_r (e' := upd A h v1) (by rw [ch]) ⟨vh, nm_r (e' := upd B h v2) (by rw [ch]) ⟨vh, nm_r (e' := upd C h v3) (by rw [ch]) ⟨vh, nm_r (e' := upd E h v4) (by rw [ch]) (nm_r (nI_1 h) k1)⟩⟩⟩⟩
        · rintro ⟨_, _, f', t', w, d, _, _, e3, e4, _, _, h1, h4, h3⟩
          exact y w d e3 e4 h1 h4 h3
    · rintro ⟨_, _, f', t', w, d, _, e2, _, _, _, ht, _⟩
      exact y t' ht e2
    · rintro ⟨_, _, f', t', w, d, e1, _, _, _, hf, _⟩
      exact y f' hf e1
  · exact br_t (nI_le (a := 8) (by omega) (by omega)) (K0 (fun y => z y.1))
theorem qi_yadd {post : Int32 → SY → Prop} {h : Nat} {A B C E st en rm fl ca qu : Nat → Int32} {ed v1 v2 v3 v4 : Int32} (hh : h ≤ 8)
    (K1 : qi_ok h v1 v2 v3 v4 → post (nI (h + 1)) (nI (h + 1), ed, upd A h v1, upd B h v2, upd C h v3, upd E h v4, st, en, rm, fl, ca, qu))
    (K0 : ¬ qi_ok h v1 v2 v3 v4 → post (-1) (nI h, ed, A, B, C, E, st, en, rm, fl, ca, qu)) : wpY_add post (nI h, ed, A, B, C, E, st, en, rm, fl, ca, qu) v1 v2 v3 v4 := by
  by_cases z : h < 8
  · refine br_f (fun y => absurd ((nI_eq (b := 8) (by omega) (by omega)).mp y) (by omega)) (qi_bad (fun f hf e1 => br_t rfl (qi_bad (fun t ht e2 => br_t rfl ?_) (fun y => br_f (by decide) (K0 ?_)))) (fun y => br_f (by decide) (K0 ?_)))
    · by_cases z0 : v1 = v2
      · exact br_t z0 (K0 (fun y => y.2.1 z0))
      · refine br_f z0 (qi_wt (fun w d e3 e4 h1 h4 h3 => ?_) (fun y => K0 ?_))
        · have ch : (nI h).toNatClampNeg = h := nI_clamp (by omega)
          have vh : vp_in (nI h) 8 := vp_in_nI z (by omega)
          have k1 := K1 ⟨z, z0, f, t, w, d, e1, e2, e3, e4, hf, ht, h1, h4, h3⟩
          exact ⟨vh, nm_r (e' := upd A h v1) (by rw [ch]) ⟨vh, nm_r (e' := upd B h v2) (by rw [ch]) ⟨vh, nm_r (e' := upd C h v3) (by rw [ch]) ⟨vh, nm_r (e' := upd E h v4) (by rw [ch]) (nm_r (nI_1 h) k1)⟩⟩⟩⟩
        · rintro ⟨_, _, f', t', w, d, _, _, e3, e4, _, _, h1, h4, h3⟩
          exact y w d e3 e4 h1 h4 h3
    · rintro ⟨_, _, f', t', w, d, _, e2, _, _, _, ht, _⟩
      exact y t' ht e2
    · rintro ⟨_, _, f', t', w, d, e1, _, _, _, hf, _⟩
      exact y f' hf e1
  · have e : h = 8 := by omega
    subst e
    exact br_t rfl (K0 (fun y => z y.1))
theorem i_vc_add {k : Nat} {u : SX} {v : SY} (I : i_Rel k u v) (hk : k + 5 ≤ 2560) (v1 : Int32) (v2 : Int32) (v3 : Int32) (v4 : Int32) : wpX_add (fun r u' => wpY_add (fun r' v' => r' = r ∧ i_Rel (k + 5) u' v') v v1 v2 v3 v4) u v1 v2 v3 v4 := by
  obtain ⟨h, A, B, C, E, S, st, en, rm, fl, ca, qu, ed, hh, hok, rfl, rfl⟩ := I
  refine qi_xadd hh (fun y => qi_yadd hh (fun y' => ⟨rfl, ?_⟩) (fun y' => absurd y y')) (fun y => qi_yadd hh (fun y' => absurd y' y) (fun y' => ⟨rfl, qi_rel hh hok⟩))
  obtain ⟨z, _, f, t, w, d, rfl, rfl, rfl, rfl, hf, ht, h1, h4, h3⟩ := y
  exact qi_rel (by omega) (qv_add hok hf ht h4 h3)
/-! drop -/
theorem qi_line {post : Int32 → Prop} {h : Nat} {A B C E S : Nat → Int32} {p : Int32} (hh : h ≤ 8) (K1 : ∀ j, j < h → p = nI j → post 1) (K0 : (∀ j, j < h → ¬ p = nI j) → post 0) : wpX_isLine post (nI h, A, B, C, E, S) p := by
  rcases pk_ix p (n := h) (by omega) with z | z | ⟨j, hj, rfl⟩
  · exact br_t z (K0 (fun f hf e => absurd (e ▸ z) (nI_pos (n := f) (by omega))))
  · have z1 : ¬ p < 0 := fun y => absurd (Int32.lt_of_le_of_lt z y) (nI_pos (n := h) (by omega))
    exact br_f z1 (br_t z (K0 (fun f hf e => absurd (e ▸ z) (nI_ge (a := f) hf (by omega)))))
  · exact br_f (nI_pos (by omega)) (br_f (nI_ge hj (by omega)) (K1 j hj rfl))
theorem qi_xdrop {post : Int32 → SX → Prop} {h : Nat} {S : Nat → Int32} (hh : h < 8) : ∀ (d i : Nat) (A B C E : Nat → Int32), i + d = h → post (nI h) (nI h, qv_sh A d i, qv_sh B d i, qv_sh C d i, qv_sh E d i, S) →
    wX_drop_12 post (nI (h + 1)) (d + 1) (nI i) A B C E S := by
  intro d
  induction d with
  | zero =>
    intro i A B C E hi K
    have e : i = h := by omega
    subst e
    rw [wX_drop_12, nI_pred]
    exact br_t (nI_le (Nat.le_refl _) (by omega)) (nm_e K)
  | succ d ih =>
    intro i A B C E hi K
    have v0 : vp_in (nI i) 8 := vp_in_nI (by omega) (by omega)
    have v1 : vp_in (nI (i + 1)) 8 := vp_in_nI (by omega) (by omega)
    have c0 : (nI i).toNatClampNeg = i := nI_clamp (by omega)
    have c1 : (nI (i + 1)).toNatClampNeg = i + 1 := nI_clamp (by omega)
    have nx := ih (i + 1) _ _ _ _ (by omega) K
    rw [wX_drop_12, nI_pred]
    dsimp only
    rw [nI_1 i, c0, c1]
    exact br_f (nI_ge (by omega) (by omega)) ⟨v1, v0, nm_e ⟨v1, v0, nm_e ⟨v1, v0, nm_e ⟨v1, v0, nm_e (nm_e nx)⟩⟩⟩⟩
theorem qi_ydrop {post : Int32 → SY → Prop} {h : Nat} {st en rm fl ca qu : Nat → Int32} {ed : Int32} (hh : h < 8) : ∀ (d i : Nat) (A B C E : Nat → Int32), i + d = h → post (nI h) (nI h, ed, qv_sh A d i, qv_sh B d i, qv_sh C d i, qv_sh E d i, st, en, rm, fl, ca, qu) →
    wY_drop_26 post (nI h) ed (d + 1) (nI i) A B C E st en rm fl ca qu := by
  intro d
  induction d with
  | zero =>
    intro i A B C E hi K
    have e : i = h := by omega
    subst e
    rw [wY_drop_26]
    exact br_t (nI_le (Nat.le_refl _) (by omega)) K
  | succ d ih =>
    intro i A B C E hi K
    have v0 : vp_in (nI i) 8 := vp_in_nI (by omega) (by omega)
    have v1 : vp_in (nI (i + 1)) 8 := vp_in_nI (by omega) (by omega)
    have c0 : (nI i).toNatClampNeg = i := nI_clamp (by omega)
    have c1 : (nI (i + 1)).toNatClampNeg = i + 1 := nI_clamp (by omega)
    have nx := ih (i + 1) _ _ _ _ (by omega) K
    rw [wY_drop_26]
    dsimp only
    rw [nI_1 i, c0, c1]
    exact br_f (nI_ge (by omega) (by omega)) ⟨v1, v0, nm_e ⟨v1, v0, nm_e ⟨v1, v0, nm_e ⟨v1, v0, nm_e (nm_e nx)⟩⟩⟩⟩
theorem i_vc_drop {k : Nat} {u : SX} {v : SY} (I : i_Rel k u v) (hk : k + 5 ≤ 2560) (v1 : Int32) : wpX_drop (fun r u' => wpY_drop (fun r' v' => r' = r ∧ i_Rel (k + 5) u' v') v v1) u v1 := by
  obtain ⟨h, A, B, C, E, S, st, en, rm, fl, ca, qu, ed, hh, hok, rfl, rfl⟩ := I
  unfold wpX_drop
  dsimp only
  refine qi_line hh (fun j hj e => br_f (by decide) ?_) (fun y => br_t rfl ?_)
  · subst e
    obtain ⟨g, rfl⟩ : ∃ g, h = g + 1 := ⟨h - 1, by omega⟩
    refine ⟨g - j + 1, qi_xdrop (by omega) (g - j) j A B C E (by omega) ?_⟩
    refine br_f (nI_pos (by omega)) (br_t (nI_lt hj (by omega)) (nm_r (nI_pred g) ⟨g - j + 1, qi_ydrop (by omega) (g - j) j A B C E (by omega) ⟨rfl, ?_⟩⟩))
    exact qi_rel (by omega) (qv_le (qv_shok (g - j) j A B C E hok (by omega)) (by omega))
  · have K : (-1 : Int32) = -1 ∧ i_Rel (k + 5) (nI h, A, B, C, E, S) (nI h, ed, A, B, C, E, st, en, rm, fl, ca, qu) := ⟨rfl, qi_rel hh hok⟩
    rcases pk_ix v1 (n := h) (by omega) with z | z | ⟨j, hj, e⟩
    · exact br_t z K
    · have z1 : ¬ v1 < 0 := fun y => absurd (Int32.lt_of_le_of_lt z y) (nI_pos (n := h) (by omega))
      exact br_f z1 (br_f (Int32.not_lt.mpr z) K)
    · exact absurd e (y j hj)
/-! the questions -/
theorem qi_mom {post : Int32 → Prop} {u : SX} {p : Int32} (K1 : ∀ t, t ≤ 12 → p = nI t → post 1) (K0 : (∀ t, t ≤ 12 → ¬ p = nI t) → post 0) : wpX_isMoment post u p := by
  obtain ⟨a, b, c, d, e, g⟩ := u
  rcases qi_ix p (n := 12) (by omega) with z | ⟨z1, z2, z3, z4⟩ | ⟨j, hj, rfl⟩
  · exact br_t z (K0 (fun f hf e => absurd (e ▸ z) (nI_pos (n := f) (by omega))))
  · exact br_f z1 (br_t z3 (K0 (fun f hf e => z2 (e ▸ nI_le hf (by omega)))))
  · exact br_f (nI_pos (by omega)) (br_f (nI_nlt (a := 12) hj (by omega)) (K1 j hj rfl))
theorem qi_bmom {post : Int32 → Prop} {p : Int32} (K1 : ∀ t, t ≤ 12 → p = nI t → post 0) (K0 : (∀ t, t ≤ 12 → ¬ p = nI t) → post 1) : wpY_badMoment post p := by
  rcases qi_ix p (n := 12) (by omega) with z | ⟨z1, z2, z3, z4⟩ | ⟨j, hj, rfl⟩
  · exact br_t z (K0 (fun f hf e => absurd (e ▸ z) (nI_pos (n := f) (by omega))))
  · exact br_f z1 (br_f z2 (K0 (fun f hf e => z2 (e ▸ nI_le hf (by omega)))))
  · exact br_f (nI_pos (by omega)) (br_t (nI_le (b := 12) hj (by omega)) (K1 j hj rfl))
theorem i_vc_arrived {k : Nat} {u : SX} {v : SY} (I : i_Rel k u v) (hk : k + 5 ≤ 2560) (v1 : Int32) : wpX_arrived (fun r u' => wpY_arrived (fun r' v' => r' = r ∧ i_Rel (k + 5) u' v') v v1) u v1 := by
  obtain ⟨h, A, B, C, E, S, st, en, rm, fl, ca, qu, ed, hh, hok, rfl, rfl⟩ := I
  unfold wpX_arrived wpY_arrived
  dsimp only
  refine qi_mom (fun t ht e => br_f (by decide) ?_) (fun y => br_t rfl ?_)
  · subst e
    refine qx_least hok hh ht (fun S' => ?_)
    refine qi_bmom (fun t' ht' e' => br_t rfl ?_) (fun y => absurd rfl (y t ht))
    exact qw_flow0 hok ht hh (fun _ _ _ _ _ _ _ => ⟨rfl, qi_rel hh hok⟩)
  · exact qi_bmom (fun t ht e => absurd e (y t ht)) (fun _ => br_f (by decide) ⟨rfl, qi_rel hh hok⟩)
theorem i_vc_quickest {k : Nat} {u : SX} {v : SY} (I : i_Rel k u v) (hk : k + 5 ≤ 2560) (v1 : Int32) : wpX_quickest (fun r u' => wpY_quickest (fun r' v' => r' = r ∧ i_Rel (k + 5) u' v') v v1) u v1 := by
  obtain ⟨h, A, B, C, E, S, st, en, rm, fl, ca, qu, ed, hh, hok, rfl, rfl⟩ := I
  unfold wpX_quickest
  dsimp only
  unfold wpX_firstMomentWith
  dsimp only
  refine ⟨14, qx_first hok hh 13 0 S (by omega) (fun S' => ?_)⟩
  exact ⟨14, qw_quick hok hh 13 0 ed st en rm fl ca qu (by omega) (fun _ _ _ _ _ _ _ => ⟨rfl, qi_rel hh hok⟩)⟩
theorem i_vc_first {k : Nat} {u : SX} {v : SY} (I : i_Rel k u v) (hk : k + 5 ≤ 2560) : wpX_first (fun r u' => wpY_first (fun r' v' => r' = r ∧ i_Rel (k + 5) u' v') v) u := by
  obtain ⟨h, A, B, C, E, S, st, en, rm, fl, ca, qu, ed, hh, hok, rfl, rfl⟩ := I
  unfold wpX_first
  dsimp only
  unfold wpX_firstMomentWith
  dsimp only
  refine ⟨14, qx_first hok hh 13 0 S (by omega) (fun S' => ?_)⟩
  dsimp only
  unfold wpY_first
  dsimp only
  unfold wpY_quickest
  dsimp only
  exact ⟨14, qw_quick hok hh 13 0 ed st en rm fl ca qu (by omega) (fun _ _ _ _ _ _ _ => ⟨rfl, qi_rel hh hok⟩)⟩
theorem qi_pm (x : Int32) : x + 1 - 1 = x := Int32.add_sub_cancel x 1
theorem i_vc_gain {k : Nat} {u : SX} {v : SY} (I : i_Rel k u v) (hk : k + 5 ≤ 2560) (v1 : Int32) (v2 : Int32) : wpX_gain (fun r u' => wpY_gain (fun r' v' => r' = r ∧ i_Rel (k + 5) u' v') v v1 v2) u v1 v2 := by
  obtain ⟨h, A, B, C, E, S, st, en, rm, fl, ca, qu, ed, hh, hok, rfl, rfl⟩ := I
  have K : (-1 : Int32) = -1 ∧ i_Rel (k + 5) (nI h, A, B, C, E, S) (nI h, ed, A, B, C, E, st, en, rm, fl, ca, qu) := ⟨rfl, qi_rel hh hok⟩
  unfold wpX_gain wpY_gain
  dsimp only
  refine qi_line hh (fun j hj e => br_f (by decide) (qi_mom (fun t ht e2 => br_f (by decide) ?_) (fun y => br_t rfl ?_))) (fun y => br_t rfl ?_)
  · subst e e2
    refine qx_least hok hh ht (fun S' => qx_least hok hh ht (fun S2 => ?_))
    refine qi_bmom (fun t' ht' e' => br_t rfl ?_) (fun y => absurd rfl (y t ht))
    have cj : (nI j).toNatClampNeg = j := nI_clamp (by omega)
    have vj : vp_in (nI j) 8 := vp_in_nI (by omega) (by omega)
    refine br_f (nI_pos (by omega)) (br_t (nI_lt hj (by omega)) (qw_flow0 hok ht hh (fun ed1 st1 en1 rm1 fl1 ca1 qu1 => ?_)))
    refine ⟨vj, vj, nm_r (e' := upd C j (C j + 1)) (by rw [cj]) (qw_flow1 hok ht hh hj (fun ed2 st2 en2 rm2 fl2 ca2 qu2 => ?_))⟩
    have eC : upd (upd C j (C j + 1)) j ((upd C j (C j + 1)) j - 1) = C := by rw [pk_us, qi_pm, qv_up]
    exact ⟨vj, vj, nm_r (e' := C) (by rw [cj]; exact eC) ⟨rfl, qi_rel hh hok⟩⟩
  · exact qi_bmom (fun t ht e => absurd e (y t ht)) (fun _ => br_f (by decide) K)
  · refine qi_bmom (fun t ht e => br_t rfl ?_) (fun _ => br_f (by decide) K)
    rcases pk_ix v1 (n := h) (by omega) with z | z | ⟨j, hj, e⟩
    · exact br_t z K
    · have z1 : ¬ v1 < 0 := fun y => absurd (Int32.lt_of_le_of_lt z y) (nI_pos (n := h) (by omega))
      exact br_f z1 (br_f (Int32.not_lt.mpr z) K)
    · exact absurd e (y j hj)
theorem i_vc_steady {k : Nat} {u : SX} {v : SY} (I : i_Rel k u v) (hk : k + 5 ≤ 2560) : wpX_steady (fun r u' => wpY_steady (fun r' v' => r' = r ∧ i_Rel (k + 5) u' v') v) u := by
  obtain ⟨h, A, B, C, E, S, st, en, rm, fl, ca, qu, ed, hh, hok, rfl, rfl⟩ := I
  unfold wpX_steady
  dsimp only
  refine qx_least (t := 0) hok hh (by omega) (fun S' => ?_)
  dsimp only
  unfold wpY_steady
  dsimp only
  exact qw_flow0 (last := 0) hok (by omega) hh (fun _ _ _ _ _ _ _ => ⟨rfl, qi_rel hh hok⟩)
end
