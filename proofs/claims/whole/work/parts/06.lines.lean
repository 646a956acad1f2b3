/-! the lines that both sides hold -/
def qv_ok (h : Nat) (A B C E : Nat → Int32) : Prop :=
  ∀ j, j < h → ∃ f t w d : Nat, A j = nI f ∧ B j = nI t ∧ C j = nI w ∧ E j = nI d ∧ f < 5 ∧ t < 5 ∧ w ≤ 4 ∧ d ≤ 3
def qv_n (A : Nat → Int32) (j : Nat) : Nat := (A j).toNatClampNeg
theorem qv_nI {A : Nat → Int32} {j f : Nat} (h : A j = nI f) (hf : f < 2 ^ 31) : qv_n A j = f := by
  unfold qv_n
  rw [h, nI_clamp hf]
theorem qv_at {h : Nat} {A B C E : Nat → Int32} (H : qv_ok h A B C E) {j : Nat} (hj : j < h) :
    A j = nI (qv_n A j) ∧ B j = nI (qv_n B j) ∧ C j = nI (qv_n C j) ∧ E j = nI (qv_n E j) ∧ qv_n A j < 5 ∧ qv_n B j < 5 ∧ qv_n C j ≤ 4 ∧ qv_n E j ≤ 3 := by
  obtain ⟨f, t, w, d, h1, h2, h3, h4, h5, h6, h7, h8⟩ := H j hj
  rw [qv_nI h1 (by omega), qv_nI h2 (by omega), qv_nI h3 (by omega), qv_nI h4 (by omega)]
  exact ⟨h1, h2, h3, h4, h5, h6, h7, h8⟩
theorem qv_add {h : Nat} {A B C E : Nat → Int32} (H : qv_ok h A B C E) {f t w d : Nat} (h5 : f < 5) (h6 : t < 5) (h7 : w ≤ 4) (h8 : d ≤ 3) :
    qv_ok (h + 1) (upd A h (nI f)) (upd B h (nI t)) (upd C h (nI w)) (upd E h (nI d)) := by
  intro j hj
  by_cases e : j = h
  · subst e
    exact ⟨f, t, w, d, pk_us, pk_us, pk_us, pk_us, h5, h6, h7, h8⟩
  · rw [pk_un e, pk_un e, pk_un e, pk_un e]
    exact H j (by omega)
theorem qv_mv {h : Nat} {A B C E : Nat → Int32} (H : qv_ok h A B C E) {i : Nat} (hi : i + 1 < h) :
    qv_ok h (upd A i (A (i + 1))) (upd B i (B (i + 1))) (upd C i (C (i + 1))) (upd E i (E (i + 1))) := by
  intro j hj
  by_cases e : j = i
  · subst e
    rw [pk_us, pk_us, pk_us, pk_us]
    exact H (j + 1) hi
  · rw [pk_un e, pk_un e, pk_un e, pk_un e]
    exact H j hj
theorem qv_le {h k : Nat} {A B C E : Nat → Int32} (H : qv_ok h A B C E) (hk : k ≤ h) : qv_ok k A B C E := fun j hj => H j (by omega)
/-- k cells from i on, each moved one place back -/
def qv_sh (A : Nat → Int32) : Nat → Nat → (Nat → Int32)
  | 0, _ => A
  | k + 1, i => qv_sh (upd A i (A (i + 1))) k (i + 1)
theorem qv_shok {h : Nat} : ∀ (k i : Nat) (A B C E : Nat → Int32), qv_ok h A B C E → i + k < h → qv_ok h (qv_sh A k i) (qv_sh B k i) (qv_sh C k i) (qv_sh E k i) := by
  intro k
  induction k with
  | zero => exact fun i A B C E H _ => H
  | succ k ih => exact fun i A B C E H hi => ih (i + 1) _ _ _ _ (qv_mv H (by omega)) (by omega)
/-- the width as one line is one wider; the time as it counts -/
def qv_W (C : Nat → Int32) (wd : Int32) (j : Nat) : Nat := if nI j = wd then qv_n C j + 1 else qv_n C j
def qv_D (E : Nat → Int32) (tm : Int32) (j : Nat) : Nat := if tm = 0 then 0 else qv_n E j
theorem qv_qs {h : Nat} {A B C E : Nat → Int32} (H : qv_ok h A B C E) (wd tm : Int32) : qs_ok h (qv_n A) (qv_n B) (qv_W C wd) (qv_D E tm) := by
  intro i hi
  obtain ⟨_, _, _, _, h5, h6, h7, h8⟩ := qv_at H hi
  refine ⟨h5, h6, ?_, ?_⟩
  · unfold qv_W
    by_cases z : nI i = wd
    · rw [if_pos z]; omega
    · rw [if_neg z]; omega
  · unfold qv_D
    by_cases z : tm = 0
    · rw [if_pos z]; omega
    · rw [if_neg z]; omega
theorem qv_W0 {C : Nat → Int32} {wd : Int32} {j : Nat} (h : ¬ nI j = wd) : qv_W C wd j = qv_n C j := if_neg h
theorem qv_W1 {C : Nat → Int32} {wd : Int32} {j : Nat} (h : nI j = wd) : qv_W C wd j = qv_n C j + 1 := if_pos h
theorem qv_D0 {E : Nat → Int32} {tm : Int32} {j : Nat} (h : tm = 0) : qv_D E tm j = 0 := if_pos h
theorem qv_D1 {E : Nat → Int32} {tm : Int32} {j : Nat} (h : ¬ tm = 0) : qv_D E tm j = qv_n E j := if_neg h
theorem qv_m1 {j : Nat} (h : j < 1000) : ¬ nI j = -1 := fun z => absurd (z ▸ (by decide : (-1 : Int32) < 0)) (nI_pos (n := j) (by omega))
theorem qv_up {C : Nat → Int32} {k : Nat} {y : Int32} : upd (upd C k y) k (C k) = C := by
  funext j
  by_cases e : j = k
  · rw [e, pk_us]
  · rw [pk_un e, pk_un e]
