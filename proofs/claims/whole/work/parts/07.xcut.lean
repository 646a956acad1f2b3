/-! the component's walks: one cut, the least cut, the first moment -/
theorem qx_cuts (i : Nat) (F T W D σ : Nat → Nat) : qs_cut (i + 1) F T W D σ = qs_cut i F T W D σ + W i * (σ (T i) - D i - σ (F i)) := rfl
section QX
variable {h : Nat} {A B C E S : Nat → Int32}
theorem qx_cut {post : Int32 → Prop} {wd tm : Int32} {σ : Nat → Nat} (hok : qv_ok h A B C E) (hh : h ≤ 8) (hS : ∀ p, p < 5 → S p = nI (σ p)) (hσ : ∀ p, σ p ≤ 13)
    (K : post (nI (qs_cut h (qv_n A) (qv_n B) (qv_W C wd) (qv_D E tm) σ))) : wpX_cutSize post (nI h, A, B, C, E, S) wd tm := by
  have main : ∀ (d i : Nat), i + d = h → wX_cutSize_5 post wd tm (nI h) A B C E S (d + 1) (nI (qs_cut i (qv_n A) (qv_n B) (qv_W C wd) (qv_D E tm) σ)) (nI i) := by
    intro d
    induction d with
    | zero =>
      intro i hi
      have e : i = h := by omega
      subst e
      exact br_t (nI_le (Nat.le_refl _) (by omega)) K
    | succ d ih =>
      intro i hi
      have hlt : i < h := by omega
      obtain ⟨a1, a2, a3, a4, a5, a6, a7, a8⟩ := qv_at hok hlt
      have ci : (nI i).toNatClampNeg = i := nI_clamp (by omega)
      have vi : vp_in (nI i) 8 := vp_in_nI (by omega) (by omega)
      have nx := ih (i + 1) (by omega)
      have b1 : A (nI i).toNatClampNeg = nI (qv_n A i) := by rw [ci]; exact a1
      have b2 : B (nI i).toNatClampNeg = nI (qv_n B i) := by rw [ci]; exact a2
      have b3 : C (nI i).toNatClampNeg = nI (qv_n C i) := by rw [ci]; exact a3
      have b4 : E (nI i).toNatClampNeg = nI (qv_n E i) := by rw [ci]; exact a4
      have s1 := hσ (qv_n A i)
      have s2 := hσ (qv_n B i)
      have e56 : ∀ tD wW : Nat, tD ≤ 3 → tD = qv_D E tm i → wW = qv_W C wd i →
          wX_cutSize_56 post (wX_cutSize_5 post wd tm (nI h) A B C E S (d + 1)) wd tm (nI (qs_cut i (qv_n A) (qv_n B) (qv_W C wd) (qv_D E tm) σ)) (nI i) (nI tD) (nI wW) (nI h) A B C E S := by
        intro tD wW h3 eD eW
        unfold wX_cutSize_56
        rw [b1, b2]
        refine ⟨vi, vp_in_nI a6 (by omega), vi, vp_in_nI a5 (by omega), nm_r (e' := nI (σ (qv_n B i)) - nI tD - nI (σ (qv_n A i))) (by rw [nI_clamp (by omega), nI_clamp (by omega), hS _ a6, hS _ a5]) ?_⟩
        rw [qx_cuts, ← eD, ← eW] at nx
        by_cases z : σ (qv_n B i) - tD - σ (qv_n A i) = 0
        · rw [z, Nat.mul_zero, Nat.add_zero] at nx
          exact br_t ((qx_le (by omega) (by omega) (by omega)).mpr z) (nm_r (nI_1 i) nx)
        · refine br_f (fun y => z ((qx_le (by omega) (by omega) (by omega)).mp y)) ?_
          rw [qx_eq z]
          exact nm_r (by rw [pk_mul, nI_add]) (nm_r (nI_1 i) nx)
      have e29 : ∀ tD : Nat, tD ≤ 3 → tD = qv_D E tm i →
          wX_cutSize_29 post (wX_cutSize_5 post wd tm (nI h) A B C E S (d + 1)) wd tm (nI (qs_cut i (qv_n A) (qv_n B) (qv_W C wd) (qv_D E tm) σ)) (nI i) (nI tD) (nI h) A B C E S := by
        intro tD h3 eD
        unfold wX_cutSize_29
        rw [b3]
        by_cases z : nI i = wd
        · refine br_t z ⟨vi, ?_⟩
          rw [nI_1]
          exact e56 tD _ h3 eD (qv_W1 z).symm
        · exact br_f z ⟨vi, e56 tD _ h3 eD (qv_W0 z).symm⟩
      refine br_f (nI_ge hlt (by omega)) ?_
      by_cases z : tm = 0
      · exact br_t z (e29 0 (by omega) (qv_D0 z).symm)
      · refine br_f z ⟨vi, ?_⟩
        rw [b4]
        exact e29 _ a8 (qv_D1 z).symm
  exact ⟨h + 1, main h 0 (by omega)⟩
theorem qx_63 {post : Int32 → SX → Prop} {J27 J45 : Int32 → Int32 → (Nat → Int32) → (Nat → Int32) → (Nat → Int32) → (Nat → Int32) → (Nat → Int32) → Prop} {wd tm : Int32} {N a b : Nat} (hok : qv_ok h A B C E) (hh : h ≤ 8) (hN : N ≤ 13) (ha : a ≤ N) (hb : b ≤ N)
    (K : ∀ v S', qx_L (fun a b c => qs_cut h (qv_n A) (qv_n B) (qv_W C wd) (qv_D E tm) (qs_sd N a b c)) N a b (N + 1) v → S' 0 = nI 0 → S' 1 = nI a → S' 2 = nI b → S' 4 = nI N → J45 (nI v) (nI (b + 1)) A B C E S') :
    ∀ (d c v : Nat) (S : Nat → Int32), c + d = N + 1 → qx_L (fun a b c => qs_cut h (qv_n A) (qv_n B) (qv_W C wd) (qv_D E tm) (qs_sd N a b c)) N a b c v → S 0 = nI 0 → S 1 = nI a → S 2 = nI b → S 4 = nI N →
    wX_leastCut_63 post J27 J45 wd tm (nI N) (nI a) (nI b) (nI h) (d + 1) (nI v) (nI c) A B C E S := by
  intro d
  induction d with
  | zero =>
    intro c v S hc hL s0 s1 s2 s4
    have e : c = N + 1 := by omega
    subst e
    exact br_t (nI_lt (by omega) (by omega)) (nm_r (nI_1 b) (K v S hL s0 s1 s2 s4))
  | succ d ih =>
    intro c v S hc hL s0 s1 s2 s4
    have hcN : c ≤ N := by omega
    have hle : ∀ p, qs_sd N a b c p ≤ N := qs_sdle ha hb hcN
    have hB := qs_cutB (σ := qs_sd N a b c) (qv_qs hok wd tm) hh hN hle
    have hv := hL.1
    have hL' := qx_Lc hL ha hb hcN rfl
    have hS : ∀ p, p < 5 → (upd S 3 (nI c)) p = nI (qs_sd N a b c p) := by
      intro p hp
      rcases (show p = 0 ∨ p = 1 ∨ p = 2 ∨ p = 3 ∨ p = 4 from by omega) with rfl | rfl | rfl | rfl | rfl
      · rw [pk_un (by decide)]; exact s0
      · rw [pk_un (by decide)]; exact s1
      · rw [pk_un (by decide)]; exact s2
      · rw [pk_us]; rfl
      · rw [pk_un (by decide)]; exact s4
    have t0 : (upd S 3 (nI c)) 0 = nI 0 := by rw [pk_un (by decide)]; exact s0
    have t1 : (upd S 3 (nI c)) 1 = nI a := by rw [pk_un (by decide)]; exact s1
    have t2 : (upd S 3 (nI c)) 2 = nI b := by rw [pk_un (by decide)]; exact s2
    have t4 : (upd S 3 (nI c)) 4 = nI N := by rw [pk_un (by decide)]; exact s4
    refine br_f (nI_nlt hcN (by omega)) (nm_e (qx_cut (σ := qs_sd N a b c) hok hh hS (fun p => Nat.le_trans (hle p) hN) ?_))
    by_cases z : qs_cut h (qv_n A) (qv_n B) (qv_W C wd) (qv_D E tm) (qs_sd N a b c) < v
    · rw [if_pos z] at hL'
      exact br_f (nI_ge z (by omega)) (nm_r (nI_1 c) (ih (c + 1) _ _ (by omega) hL' t0 t1 t2 t4))
    · rw [if_neg z] at hL'
      exact br_t (nI_le (by omega) (by omega)) (nm_r (nI_1 c) (ih (c + 1) _ _ (by omega) hL' t0 t1 t2 t4))
theorem qx_45 {post : Int32 → SX → Prop} {J27 : Int32 → Int32 → (Nat → Int32) → (Nat → Int32) → (Nat → Int32) → (Nat → Int32) → (Nat → Int32) → Prop} {wd tm : Int32} {N a : Nat} (hok : qv_ok h A B C E) (hh : h ≤ 8) (hN : N ≤ 13) (ha : a ≤ N)
    (K : ∀ v S', qx_L (fun a b c => qs_cut h (qv_n A) (qv_n B) (qv_W C wd) (qv_D E tm) (qs_sd N a b c)) N a (N + 1) 0 v → S' 0 = nI 0 → S' 1 = nI a → S' 4 = nI N → J27 (nI v) (nI (a + 1)) A B C E S') :
    ∀ (d b v : Nat) (S : Nat → Int32), b + d = N + 1 → qx_L (fun a b c => qs_cut h (qv_n A) (qv_n B) (qv_W C wd) (qv_D E tm) (qs_sd N a b c)) N a b 0 v → S 0 = nI 0 → S 1 = nI a → S 4 = nI N →
    wX_leastCut_45 post J27 wd tm (nI N) (nI a) (nI h) (d + 1) (nI v) (nI b) A B C E S := by
  intro d
  induction d with
  | zero =>
    intro b v S hc hL s0 s1 s4
    have e : b = N + 1 := by omega
    subst e
    exact br_t (nI_lt (by omega) (by omega)) (nm_r (nI_1 a) (K v S hL s0 s1 s4))
  | succ d ih =>
    intro b v S hc hL s0 s1 s4
    have hbN : b ≤ N := by omega
    refine br_f (nI_nlt hbN (by omega)) (nm_e ⟨N + 1 + 1, ?_⟩)
    refine qx_63 hok hh hN ha hbN (fun v' S' hL' t0 t1 t2 t4 => ih (b + 1) v' S' (by omega) (qx_Lb hL') t0 t1 t4) (N + 1) 0 v _ (by omega) hL ?_ ?_ pk_us ?_
    · rw [pk_un (by decide)]; exact s0
    · rw [pk_un (by decide)]; exact s1
    · rw [pk_un (by decide)]; exact s4
theorem qx_27 {post : Int32 → SX → Prop} {wd tm : Int32} {N : Nat} (hok : qv_ok h A B C E) (hh : h ≤ 8) (hN : N ≤ 13)
    (K : ∀ v S', qx_L (fun a b c => qs_cut h (qv_n A) (qv_n B) (qv_W C wd) (qv_D E tm) (qs_sd N a b c)) N (N + 1) 0 0 v → post (nI v) (nI h, A, B, C, E, S')) :
    ∀ (d a v : Nat) (S : Nat → Int32), a + d = N + 1 → qx_L (fun a b c => qs_cut h (qv_n A) (qv_n B) (qv_W C wd) (qv_D E tm) (qs_sd N a b c)) N a 0 0 v → S 0 = nI 0 → S 4 = nI N →
    wX_leastCut_27 post wd tm (nI N) (nI h) (d + 1) (nI v) (nI a) A B C E S := by
  intro d
  induction d with
  | zero =>
    intro a v S hc hL s0 s4
    have e : a = N + 1 := by omega
    subst e
    exact br_t (nI_lt (by omega) (by omega)) (K v S hL)
  | succ d ih =>
    intro a v S hc hL s0 s4
    have haN : a ≤ N := by omega
    refine br_f (nI_nlt haN (by omega)) (nm_e ⟨N + 1 + 1, ?_⟩)
    refine qx_45 hok hh hN haN (fun v' S' hL' t0 t1 t4 => ih (a + 1) v' S' (by omega) (qx_La hL') t0 t4) (N + 1) 0 v _ (by omega) hL ?_ pk_us ?_
    · rw [pk_un (by decide)]; exact s0
    · rw [pk_un (by decide)]; exact s4
theorem qx_least {post : Int32 → SX → Prop} {wd tm : Int32} {t : Nat} (hok : qv_ok h A B C E) (hh : h ≤ 8) (ht : t ≤ 12)
    (K : ∀ S', post (nI (qm_v h (qv_n A) (qv_n B) (qv_W C wd) (qv_D E tm) (t + 1))) (nI h, A, B, C, E, S')) : wpX_leastCut post (nI h, A, B, C, E, S) (nI t) wd tm := by
  refine nm_r (nI_1 t) (nm_e (nm_e ⟨t + 1 + 1 + 1, ?_⟩))
  refine qx_27 hok hh (by omega) (fun v S' hL => ?_) (t + 1 + 1) 0 1000000 _ (by omega) (qx_L0 _ _) ?_ pk_us
  · have e := qm_is (qx_Lend hL (qv_qs hok wd tm) hh (by omega))
    rw [e]
    exact K S'
  · rw [pk_un (by decide), pk_us]; rfl
theorem qx_first {post : Int32 → SX → Prop} {amt : Int32} (hok : qv_ok h A B C E) (hh : h ≤ 8) :
    ∀ (d t : Nat) (S : Nat → Int32), t + d = 13 → (∀ S', post (qm_f (fun t => qm_v h (qv_n A) (qv_n B) (qv_W C (-1)) (qv_D E 1) (t + 1)) amt d t) (nI h, A, B, C, E, S')) →
    wX_firstMomentWith_2 post amt (d + 1) (nI t) (nI h) A B C E S := by
  intro d
  induction d with
  | zero =>
    intro t S ht K
    have e : t = 13 := by omega
    subst e
    exact br_t (by decide) (K S)
  | succ d ih =>
    intro t S ht K
    refine br_f (nI_nlt (a := 12) (by omega) (by omega)) (qx_least hok hh (by omega) (fun S' => ?_))
    by_cases z : nI (qm_v h (qv_n A) (qv_n B) (qv_W C (-1)) (qv_D E 1) (t + 1)) < amt
    · rw [qm_f1 (val := fun t => qm_v h (qv_n A) (qv_n B) (qv_W C (-1)) (qv_D E 1) (t + 1)) (t := t) z] at K
      exact br_t z (nm_r (nI_1 t) (ih (t + 1) S' (by omega) K))
    · rw [qm_f0 (val := fun t => qm_v h (qv_n A) (qv_n B) (qv_W C (-1)) (qv_D E 1) (t + 1)) (t := t) z] at K
      exact br_f z (K S')
end QX
