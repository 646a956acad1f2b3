/-! sums of a row of numbers: whole (qs_i) and natural (qs_n) -/
def qs_i (t : Nat → Int) : Nat → Int
  | 0 => 0
  | n + 1 => qs_i t n + t n
def qs_n (t : Nat → Nat) : Nat → Nat
  | 0 => 0
  | n + 1 => qs_n t n + t n
theorem qs_is (t : Nat → Int) (n : Nat) : qs_i t (n + 1) = qs_i t n + t n := rfl
theorem qs_ns (t : Nat → Nat) (n : Nat) : qs_n t (n + 1) = qs_n t n + t n := rfl
theorem qs_cg {t u : Nat → Int} (n : Nat) (h : ∀ e, e < n → t e = u e) : qs_i t n = qs_i u n := by
  induction n with
  | zero => rfl
  | succ n ih =>
    have h1 := ih (fun e he => h e (by omega))
    have h2 := h n (by omega)
    rw [qs_is, qs_is, h1, h2]
theorem qs_le {t u : Nat → Int} (n : Nat) (h : ∀ e, e < n → t e ≤ u e) : qs_i t n ≤ qs_i u n := by
  induction n with
  | zero => exact Int.le_refl 0
  | succ n ih =>
    have h1 := ih (fun e he => h e (by omega))
    have h2 := h n (by omega)
    rw [qs_is, qs_is]
    omega
theorem qs_up {t u : Nat → Int} {k : Nat} {d : Int} (n : Nat) (hk : k < n) (h : ∀ e, e < n → e ≠ k → u e = t e) (hd : u k = t k + d) : qs_i u n = qs_i t n + d := by
  induction n with
  | zero => omega
  | succ n ih =>
    rw [qs_is, qs_is]
    by_cases e : k = n
    · have h1 : qs_i u n = qs_i t n := qs_cg n (fun j hj => h j (by omega) (by omega))
      rw [← e, hd, e, h1]
      omega
    · have h1 := ih (by omega) (fun j hj hne => h j (by omega) hne)
      have h2 := h n (by omega) (fun z => e z.symm)
      rw [h1, h2]
      omega
theorem qs_z0 {t : Nat → Int} (n : Nat) (h : ∀ e, e < n → t e = 0) : qs_i t n = 0 := by
  induction n with
  | zero => rfl
  | succ n ih =>
    have h1 := ih (fun e he => h e (by omega))
    have h2 := h n (by omega)
    rw [qs_is]
    omega
theorem qs_nn {t : Nat → Int} (n : Nat) (h : ∀ e, e < n → 0 ≤ t e) : 0 ≤ qs_i t n := by
  induction n with
  | zero => exact Int.le_refl 0
  | succ n ih =>
    have h1 := ih (fun e he => h e (by omega))
    have h2 := h n (by omega)
    rw [qs_is]
    omega
theorem qs_g1 {t : Nat → Int} {k : Nat} (n : Nat) (h : ∀ e, e < n → 0 ≤ t e) (hk : k < n) : t k ≤ qs_i t n := by
  induction n with
  | zero => omega
  | succ n ih =>
    rw [qs_is]
    have h2 := h n (by omega)
    by_cases e : k = n
    · have h1 := qs_nn n (fun j hj => h j (by omega))
      rw [e]
      omega
    · have h1 := ih (fun e he => h e (by omega)) (by omega)
      omega
theorem qs_zz {t : Nat → Int} {k : Nat} (n : Nat) (h : ∀ e, e < n → 0 ≤ t e) (hz : qs_i t n = 0) (hk : k < n) : t k = 0 := by
  have h1 := qs_g1 n h hk
  have h2 := h k hk
  omega
theorem qs_ni (t : Nat → Nat) (n : Nat) : ((qs_n t n : Nat) : Int) = qs_i (fun e => (t e : Int)) n := by
  induction n with
  | zero => rfl
  | succ n ih =>
    rw [qs_ns, qs_is, ← ih]
    omega
theorem qs_nle {t : Nat → Nat} {B : Nat} (n : Nat) (h : ∀ e, e < n → t e ≤ B) : qs_n t n ≤ n * B := by
  induction n with
  | zero => exact Nat.zero_le _
  | succ n ih =>
    have h1 := ih (fun e he => h e (by omega))
    have h2 := h n (by omega)
    rw [qs_ns, Nat.succ_mul]
    omega
theorem qs_ncg {t u : Nat → Nat} (n : Nat) (h : ∀ e, e < n → t e = u e) : qs_n t n = qs_n u n := by
  induction n with
  | zero => rfl
  | succ n ih =>
    have h1 := ih (fun e he => h e (by omega))
    have h2 := h n (by omega)
    rw [qs_ns, qs_ns, h1, h2]
theorem qs_nup {t u : Nat → Nat} {k : Nat} {d : Nat} (n : Nat) (hk : k < n) (h : ∀ e, e < n → e ≠ k → u e = t e) (hd : u k = t k + d) : qs_n u n = qs_n t n + d := by
  induction n with
  | zero => omega
  | succ n ih =>
    rw [qs_ns, qs_ns]
    by_cases e : k = n
    · have h1 : qs_n u n = qs_n t n := qs_ncg n (fun j hj => h j (by omega) (by omega))
      rw [← e, hd, e, h1]
      omega
    · have h1 := ih (by omega) (fun j hj hne => h j (by omega) hne)
      have h2 := h n (by omega) (fun z => e z.symm)
      rw [h1, h2]
      omega
theorem qs_n0 {t : Nat → Nat} (n : Nat) (h : ∀ e, e < n → t e = 0) : qs_n t n = 0 := by
  induction n with
  | zero => rfl
  | succ n ih =>
    have h1 := ih (fun e he => h e (by omega))
    have h2 := h n (by omega)
    rw [qs_ns]
    omega
/-- how many m below N lie from a on and below b, each weighing w -/
theorem qs_iv (w : Int) (a b : Nat) (N : Nat) (hb : b ≤ N) : qs_i (fun m => if a ≤ m ∧ m < b then w else 0) N = w * ((b - a : Nat) : Int) := by
  have H : ∀ k, qs_i (fun m => if a ≤ m ∧ m < b then w else 0) k = w * (((if k < b then k else b) - a : Nat) : Int) := by
    intro k
    induction k with
    | zero =>
      by_cases e : 0 < b
      · rw [if_pos e, Nat.zero_sub]; exact (Int.mul_zero w).symm
      · rw [if_neg e, show b - a = 0 from by omega]; exact (Int.mul_zero w).symm
    | succ k ih =>
      rw [qs_is, ih]
      by_cases h1 : k < b
      · have e3 : (if k + 1 < b then k + 1 else b) = k + 1 := by
          by_cases h3 : k + 1 < b
          · exact if_pos h3
          · rw [if_neg h3]; omega
        rw [if_pos h1, e3]
        by_cases h2 : a ≤ k
        · rw [if_pos ⟨h2, h1⟩, show k + 1 - a = (k - a) + 1 from by omega, Int.natCast_add, Int.mul_add]
          show _ = _ + w * 1
          rw [Int.mul_one]
        · rw [if_neg (fun z => h2 z.1), show k + 1 - a = 0 from by omega, show k - a = 0 from by omega, Int.add_zero]
      · rw [if_neg h1, if_neg (fun z => h1 z.2), if_neg (show ¬ k + 1 < b from by omega), Int.add_zero]
  have h := H N
  by_cases e : N < b
  · omega
  · rw [if_neg e] at h
    exact h
