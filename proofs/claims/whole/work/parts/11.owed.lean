/-! the relation and the owed statements -/
/-- both hold the same lines, each within its ranges; all else is free -/
def i_Rel (k : Nat) (u : SX) (v : SY) : Prop :=
  ∃ (h : Nat) (A B C E S st en rm fl ca qu : Nat → Int32) (ed : Int32), h ≤ 8 ∧ qv_ok h A B C E ∧ u = (nI h, A, B, C, E, S) ∧ v = (nI h, ed, A, B, C, E, st, en, rm, fl, ca, qu)
theorem i_up {k : Nat} {u : SX} {v : SY} (h : i_Rel k u v) : i_Rel (k + 5) u v := h
theorem i_vc0 : wpX_init (fun u => wpY_init (fun v => i_Rel 0 u v)) :=
  ⟨0, _, _, _, _, _, _, _, _, _, _, _, _, Nat.zero_le _, fun j hj => absurd hj (by omega), rfl, rfl⟩
theorem qi_rel {k h : Nat} {A B C E S st en rm fl ca qu : Nat → Int32} {ed : Int32} (hh : h ≤ 8) (hok : qv_ok h A B C E) : i_Rel k (nI h, A, B, C, E, S) (nI h, ed, A, B, C, E, st, en, rm, fl, ca, qu) :=
  ⟨h, A, B, C, E, S, st, en, rm, fl, ca, qu, ed, hh, hok, rfl, rfl⟩
theorem qi_ix (x : Int32) {n : Nat} (hn : n + 1 < 2 ^ 31) : x < 0 ∨ (¬ x < 0 ∧ ¬ x ≤ nI n ∧ nI n < x ∧ nI (n + 1) ≤ x) ∨ ∃ j, j ≤ n ∧ x = nI j := by
  by_cases h : x < 0
  · exact Or.inl h
  · obtain ⟨j, hj, rfl⟩ := nI_of h
    by_cases h2 : j ≤ n
    · exact Or.inr (Or.inr ⟨j, h2, rfl⟩)
    · exact Or.inr (Or.inl ⟨h, fun z => h2 ((nI_leI hj (by omega)).mp z), nI_lt (by omega) hj, nI_le (by omega) hj⟩)
/-! add -/
def qi_ok (h : Nat) (v1 v2 v3 v4 : Int32) : Prop := h < 8 ∧ ¬ v1 = v2 ∧ ∃ f t w d : Nat, v1 = nI f ∧ v2 = nI t ∧ v3 = nI w ∧ v4 = nI d ∧ f < 5 ∧ t < 5 ∧ 1 ≤ w ∧ w ≤ 4 ∧ d ≤ 3
theorem qi_place {post : Int32 → Prop} {u : SX} {p : Int32} (K1 : ∀ f, f < 5 → p = nI f → post 1) (K0 : (∀ f, f < 5 → ¬ p = nI f) → post 0) : wpX_isPlace post u p := by
  obtain ⟨a, b, c, d, e, g⟩ := u
  rcases qi_ix p (n := 4) (by omega) with z | ⟨z1, z2, z3, z4⟩ | ⟨j, hj, rfl⟩
  · exact br_t z (K0 (fun f hf e => absurd (e ▸ z) (nI_pos (n := f) (by omega))))
  · exact br_f z1 (br_t z4 (K0 (fun f hf e => z2 (e ▸ nI_le (by omega) (by omega)))))
  · exact br_f (nI_pos (by omega)) (br_f (nI_ge (b := 5) (by omega) (by omega)) (K1 j (by omega) rfl))
theorem qi_bad {post : Int32 → Prop} {p : Int32} (K1 : ∀ f, f < 5 → p = nI f → post 0) (K0 : (∀ f, f < 5 → ¬ p = nI f) → post 1) : wpY_badPlace post p := by
  rcases qi_ix p (n := 4) (by omega) with z | ⟨z1, z2, z3, z4⟩ | ⟨j, hj, rfl⟩
  · exact br_t z (K0 (fun f hf e => absurd (e ▸ z) (nI_pos (n := f) (by omega))))
  · exact br_f z1 (br_f z2 (K0 (fun f hf e => z2 (e ▸ nI_le (by omega) (by omega)))))
  · exact br_f (nI_pos (by omega)) (br_t (nI_le (b := 4) (by omega) (by omega)) (K1 j (by omega) rfl))
/-- width and time: refused, or within -/
theorem qi_wt {v3 v4 : Int32} {P0 P1 : Prop} (K1 : ∀ w d, v3 = nI w → v4 = nI d → 1 ≤ w → w ≤ 4 → d ≤ 3 → P1) (K0 : (∀ w d, v3 = nI w → v4 = nI d → 1 ≤ w → w ≤ 4 → d ≤ 3 → False) → P0) :
    ((v3 < 1 → P0) ∧ (¬ v3 < 1 → (((4 < v3 → P0) ∧ (¬ 4 < v3 → (((v4 < 0 → P0) ∧ (¬ v4 < 0 → (((v4 ≤ 3 → P1) ∧ (¬ v4 ≤ 3 → P0))))))))))) := by
  by_cases z1 : v3 < 1
  · exact br_t z1 (K0 (fun w d e _ h1 _ _ => by
      rw [e] at z1
      exact absurd z1 (nI_nlt (b := 1) h1 (by omega))))
  · refine br_f z1 ?_
    by_cases z2 : 4 < v3
    · exact br_t z2 (K0 (fun w d e _ _ h4 _ => by
        rw [e] at z2
        exact absurd z2 (nI_nlt (a := 4) h4 (by omega))))
    · refine br_f z2 ?_
      by_cases z3 : v4 < 0
      · exact br_t z3 (K0 (fun w d _ e _ _ h3 => by
          rw [e] at z3
          exact absurd z3 (nI_pos (by omega))))
      · refine br_f z3 ?_
        by_cases z4 : v4 ≤ 3
        · refine br_t z4 ?_
          have z5 : ¬ v3 < 0 := fun y => z1 (Int32.lt_trans y (by decide))
          obtain ⟨w, hw, rfl⟩ := nI_of z5
          obtain ⟨d, hd, rfl⟩ := nI_of z3
          have w1 : 1 ≤ w := by
            by_cases y : 1 ≤ w
            · exact y
            · exact absurd (nI_lt (b := 1) (by omega) (by omega)) z1
          have w4 : w ≤ 4 := by
            by_cases y : w ≤ 4
            · exact y
            · exact absurd (nI_lt (a := 4) (by omega) hw) z2
          have d3 : d ≤ 3 := by
            by_cases y : d ≤ 3
            · exact y
            · exact absurd z4 (nI_ge (a := 3) (by omega) hd)
          exact K1 w d rfl rfl w1 w4 d3
        · exact br_f z4 (K0 (fun w d _ e _ _ h3 => by
            rw [e] at z4
            exact z4 (nI_le (b := 3) h3 (by omega))))
theorem qi_xadd {post : Int32 → SX → Prop} {h : Nat} {A B C E S : Nat → Int32} {v1 v2 v3 v4 : Int32} (hh : h ≤ 8)
    (K1 : qi_ok h v1 v2 v3 v4 → post (nI (h + 1)) (nI (h + 1), upd A h v1, upd B h v2, upd C h v3, upd E h v4, S))
    (K0 : ¬ qi_ok h v1 v2 v3 v4 → post (-1) (nI h, A, B, C, E, S)) : wpX_add post (nI h, A, B, C, E, S) v1 v2 v3 v4 := by
  by_cases z : h < 8
  · refine br_f (nI_ge (b := 8) z (by omega)) (qi_place (fun f hf e1 => br_f (by decide) (qi_place (fun t ht e2 => br_f (by decide) ?_) (fun y => br_t rfl (K0 ?_)))) (fun y => br_t rfl (K0 ?_)))
    · by_cases z0 : v1 = v2
      · exact br_t z0 (K0 (fun y => y.2.1 z0))
      · refine br_f z0 (qi_wt (fun w d e3 e4 h1 h4 h3 => ?_) (fun y => K0 ?_))
        · have ch : (nI h).toNatClampNeg = h := nI_clamp (by omega)
          have vh : vp_in (nI h) 8 := vp_in_nI z (by omega)
          have k1 := K1 ⟨z, z0, f, t, w, d, e1, e2, e3, e4, hf, ht, h1, h4, h3⟩
          exact ⟨vh, nm_r (e' := upd A h v1) (by rw [ch]) ⟨vh, nm_r (e' := upd B h v2) (by rw [ch]) ⟨vh, nm_r (e' := upd C h v3) (by rw [ch]) ⟨vh, nm_r (e' := upd E h v4) (by rw [ch]) (nm_r (nI_1 h) k1)⟩⟩⟩⟩
        · rintro ⟨_, _, f', t', w, d, _, _, e3, e4, _, _, h1, h4, h3⟩
          exact y w d e3 e4 h1 h4 h3
    · rintro ⟨_, _, f', t', w, d, _, e2, _, _, _, ht, _⟩
      exact y t' ht e2
    · rintro ⟨_, _, f', t', w, d, e1, _, _, _, hf, _⟩
      exact y f' hf e1
  · exact br_t (nI_le (a := 8) (by omega) (by omega)) (K0 (fun y => z y.1))
theorem qi_yadd {post : Int32 → SY → Prop} {h : Nat} {A B C E st en rm fl ca qu : Nat → Int32} {ed v1 v2 v3 v4 : Int32} (hh : h ≤ 8)
    (K1 : qi_ok h v1 v2 v3 v4 → post (nI (h + 1)) (nI (h + 1), ed, upd A h v1, upd B h v2, upd C h v3, upd E h v4, st, en, rm, fl, ca, qu))
    (K0 : ¬ qi_ok h v1 v2 v3 v4 → post (-1) (nI h, ed, A, B, C, E, st, en, rm, fl, ca, qu)) : wpY_add post (nI h, ed, A, B, C, E, st, en, rm, fl, ca, qu) v1 v2 v3 v4 := by
  by_cases z : h < 8
  · refine br_f (fun y => absurd ((nI_eq (b := 8) (by omega) (by omega)).mp y) (by omega)) (qi_bad (fun f hf e1 => br_t rfl (qi_bad (fun t ht e2 => br_t rfl ?_) (fun y => br_f (by decide) (K0 ?_)))) (fun y => br_f (by decide) (K0 ?_)))
    · by_cases z0 : v1 = v2
      · exact br_t z0 (K0 (fun y => y.2.1 z0))
      · refine br_f z0 (qi_wt (fun w d e3 e4 h1 h4 h3 => ?_) (fun y => K0 ?_))
        · have ch : (nI h).toNatClampNeg = h := nI_clamp (by omega)
          have vh : vp_in (nI h) 8 := vp_in_nI z (by omega)
          have k1 := K1 ⟨z, z0, f, t, w, d, e1, e2, e3, e4, hf, ht, h1, h4, h3⟩
          exact ⟨vh, nm_r (e' := upd A h v1) (by rw [ch]) ⟨vh, nm_r (e' := upd B h v2) (by rw [ch]) ⟨vh, nm_r (e' := upd C h v3) (by rw [ch]) ⟨vh, nm_r (e' := upd E h v4) (by rw [ch]) (nm_r (nI_1 h) k1)⟩⟩⟩⟩
        · rintro ⟨_, _, f', t', w, d, _, _, e3, e4, _, _, h1, h4, h3⟩
          exact y w d e3 e4 h1 h4 h3
    · rintro ⟨_, _, f', t', w, d, _, e2, _, _, _, ht, _⟩
      exact y t' ht e2
    · rintro ⟨_, _, f', t', w, d, e1, _, _, _, hf, _⟩
      exact y f' hf e1
  · have e : h = 8 := by omega
    subst e
    exact br_t rfl (K0 (fun y => z y.1))
theorem i_vc_add {k : Nat} {u : SX} {v : SY} (I : i_Rel k u v) (hk : k + 5 ≤ 2560) (v1 : Int32) (v2 : Int32) (v3 : Int32) (v4 : Int32) : wpX_add (fun r u' => wpY_add (fun r' v' => r' = r ∧ i_Rel (k + 5) u' v') v v1 v2 v3 v4) u v1 v2 v3 v4 := by
  obtain ⟨h, A, B, C, E, S, st, en, rm, fl, ca, qu, ed, hh, hok, rfl, rfl⟩ := I
  refine qi_xadd hh (fun y => qi_yadd hh (fun y' => ⟨rfl, ?_⟩) (fun y' => absurd y y')) (fun y => qi_yadd hh (fun y' => absurd y' y) (fun y' => ⟨rfl, qi_rel hh hok⟩))
  obtain ⟨z, _, f, t, w, d, rfl, rfl, rfl, rfl, hf, ht, h1, h4, h3⟩ := y
  exact qi_rel (by omega) (qv_add hok hf ht h4 h3)
/-! drop -/
theorem qi_line {post : Int32 → Prop} {h : Nat} {A B C E S : Nat → Int32} {p : Int32} (hh : h ≤ 8) (K1 : ∀ j, j < h → p = nI j → post 1) (K0 : (∀ j, j < h → ¬ p = nI j) → post 0) : wpX_isLine post (nI h, A, B, C, E, S) p := by
  rcases pk_ix p (n := h) (by omega) with z | z | ⟨j, hj, rfl⟩
  · exact br_t z (K0 (fun f hf e => absurd (e ▸ z) (nI_pos (n := f) (by omega))))
  · have z1 : ¬ p < 0 := fun y => absurd (Int32.lt_of_le_of_lt z y) (nI_pos (n := h) (by omega))
    exact br_f z1 (br_t z (K0 (fun f hf e => absurd (e ▸ z) (nI_ge (a := f) hf (by omega)))))
  · exact br_f (nI_pos (by omega)) (br_f (nI_ge hj (by omega)) (K1 j hj rfl))
theorem qi_xdrop {post : Int32 → SX → Prop} {h : Nat} {S : Nat → Int32} (hh : h < 8) : ∀ (d i : Nat) (A B C E : Nat → Int32), i + d = h → post (nI h) (nI h, qv_sh A d i, qv_sh B d i, qv_sh C d i, qv_sh E d i, S) →
    wX_drop_12 post (nI (h + 1)) (d + 1) (nI i) A B C E S := by
  intro d
  induction d with
  | zero =>
    intro i A B C E hi K
    have e : i = h := by omega
    subst e
    rw [wX_drop_12, nI_pred]
    exact br_t (nI_le (Nat.le_refl _) (by omega)) (nm_e K)
  | succ d ih =>
    intro i A B C E hi K
    have v0 : vp_in (nI i) 8 := vp_in_nI (by omega) (by omega)
    have v1 : vp_in (nI (i + 1)) 8 := vp_in_nI (by omega) (by omega)
    have c0 : (nI i).toNatClampNeg = i := nI_clamp (by omega)
    have c1 : (nI (i + 1)).toNatClampNeg = i + 1 := nI_clamp (by omega)
    have nx := ih (i + 1) _ _ _ _ (by omega) K
    rw [wX_drop_12, nI_pred]
    dsimp only
    rw [nI_1 i, c0, c1]
    exact br_f (nI_ge (by omega) (by omega)) ⟨v1, v0, nm_e ⟨v1, v0, nm_e ⟨v1, v0, nm_e ⟨v1, v0, nm_e (nm_e nx)⟩⟩⟩⟩
theorem qi_ydrop {post : Int32 → SY → Prop} {h : Nat} {st en rm fl ca qu : Nat → Int32} {ed : Int32} (hh : h < 8) : ∀ (d i : Nat) (A B C E : Nat → Int32), i + d = h → post (nI h) (nI h, ed, qv_sh A d i, qv_sh B d i, qv_sh C d i, qv_sh E d i, st, en, rm, fl, ca, qu) →
    wY_drop_26 post (nI h) ed (d + 1) (nI i) A B C E st en rm fl ca qu := by
  intro d
  induction d with
  | zero =>
    intro i A B C E hi K
    have e : i = h := by omega
    subst e
    rw [wY_drop_26]
    exact br_t (nI_le (Nat.le_refl _) (by omega)) K
  | succ d ih =>
    intro i A B C E hi K
    have v0 : vp_in (nI i) 8 := vp_in_nI (by omega) (by omega)
    have v1 : vp_in (nI (i + 1)) 8 := vp_in_nI (by omega) (by omega)
    have c0 : (nI i).toNatClampNeg = i := nI_clamp (by omega)
    have c1 : (nI (i + 1)).toNatClampNeg = i + 1 := nI_clamp (by omega)
    have nx := ih (i + 1) _ _ _ _ (by omega) K
    rw [wY_drop_26]
    dsimp only
    rw [nI_1 i, c0, c1]
    exact br_f (nI_ge (by omega) (by omega)) ⟨v1, v0, nm_e ⟨v1, v0, nm_e ⟨v1, v0, nm_e ⟨v1, v0, nm_e (nm_e nx)⟩⟩⟩⟩
theorem i_vc_drop {k : Nat} {u : SX} {v : SY} (I : i_Rel k u v) (hk : k + 5 ≤ 2560) (v1 : Int32) : wpX_drop (fun r u' => wpY_drop (fun r' v' => r' = r ∧ i_Rel (k + 5) u' v') v v1) u v1 := by
  obtain ⟨h, A, B, C, E, S, st, en, rm, fl, ca, qu, ed, hh, hok, rfl, rfl⟩ := I
  unfold wpX_drop
  dsimp only
  refine qi_line hh (fun j hj e => br_f (by decide) ?_) (fun y => br_t rfl ?_)
  · subst e
    obtain ⟨g, rfl⟩ : ∃ g, h = g + 1 := ⟨h - 1, by omega⟩
    refine ⟨g - j + 1, qi_xdrop (by omega) (g - j) j A B C E (by omega) ?_⟩
    refine br_f (nI_pos (by omega)) (br_t (nI_lt hj (by omega)) (nm_r (nI_pred g) ⟨g - j + 1, qi_ydrop (by omega) (g - j) j A B C E (by omega) ⟨rfl, ?_⟩⟩))
    exact qi_rel (by omega) (qv_le (qv_shok (g - j) j A B C E hok (by omega)) (by omega))
  · have K : (-1 : Int32) = -1 ∧ i_Rel (k + 5) (nI h, A, B, C, E, S) (nI h, ed, A, B, C, E, st, en, rm, fl, ca, qu) := ⟨rfl, qi_rel hh hok⟩
    rcases pk_ix v1 (n := h) (by omega) with z | z | ⟨j, hj, e⟩
    · exact br_t z K
    · have z1 : ¬ v1 < 0 := fun y => absurd (Int32.lt_of_le_of_lt z y) (nI_pos (n := h) (by omega))
      exact br_f z1 (br_f (Int32.not_lt.mpr z) K)
    · exact absurd e (y j hj)
/-! the questions -/
theorem qi_mom {post : Int32 → Prop} {u : SX} {p : Int32} (K1 : ∀ t, t ≤ 12 → p = nI t → post 1) (K0 : (∀ t, t ≤ 12 → ¬ p = nI t) → post 0) : wpX_isMoment post u p := by
  obtain ⟨a, b, c, d, e, g⟩ := u
  rcases qi_ix p (n := 12) (by omega) with z | ⟨z1, z2, z3, z4⟩ | ⟨j, hj, rfl⟩
  · exact br_t z (K0 (fun f hf e => absurd (e ▸ z) (nI_pos (n := f) (by omega))))
  · exact br_f z1 (br_t z3 (K0 (fun f hf e => z2 (e ▸ nI_le hf (by omega)))))
  · exact br_f (nI_pos (by omega)) (br_f (nI_nlt (a := 12) hj (by omega)) (K1 j hj rfl))
theorem qi_bmom {post : Int32 → Prop} {p : Int32} (K1 : ∀ t, t ≤ 12 → p = nI t → post 0) (K0 : (∀ t, t ≤ 12 → ¬ p = nI t) → post 1) : wpY_badMoment post p := by
  rcases qi_ix p (n := 12) (by omega) with z | ⟨z1, z2, z3, z4⟩ | ⟨j, hj, rfl⟩
  · exact br_t z (K0 (fun f hf e => absurd (e ▸ z) (nI_pos (n := f) (by omega))))
  · exact br_f z1 (br_f z2 (K0 (fun f hf e => z2 (e ▸ nI_le hf (by omega)))))
  · exact br_f (nI_pos (by omega)) (br_t (nI_le (b := 12) hj (by omega)) (K1 j hj rfl))
theorem i_vc_arrived {k : Nat} {u : SX} {v : SY} (I : i_Rel k u v) (hk : k + 5 ≤ 2560) (v1 : Int32) : wpX_arrived (fun r u' => wpY_arrived (fun r' v' => r' = r ∧ i_Rel (k + 5) u' v') v v1) u v1 := by
  obtain ⟨h, A, B, C, E, S, st, en, rm, fl, ca, qu, ed, hh, hok, rfl, rfl⟩ := I
  unfold wpX_arrived wpY_arrived
  dsimp only
  refine qi_mom (fun t ht e => br_f (by decide) ?_) (fun y => br_t rfl ?_)
  · subst e
    refine qx_least hok hh ht (fun S' => ?_)
    refine qi_bmom (fun t' ht' e' => br_t rfl ?_) (fun y => absurd rfl (y t ht))
    exact qw_flow0 hok ht hh (fun _ _ _ _ _ _ _ => ⟨rfl, qi_rel hh hok⟩)
  · exact qi_bmom (fun t ht e => absurd e (y t ht)) (fun _ => br_f (by decide) ⟨rfl, qi_rel hh hok⟩)
theorem i_vc_quickest {k : Nat} {u : SX} {v : SY} (I : i_Rel k u v) (hk : k + 5 ≤ 2560) (v1 : Int32) : wpX_quickest (fun r u' => wpY_quickest (fun r' v' => r' = r ∧ i_Rel (k + 5) u' v') v v1) u v1 := by
  obtain ⟨h, A, B, C, E, S, st, en, rm, fl, ca, qu, ed, hh, hok, rfl, rfl⟩ := I
  unfold wpX_quickest
  dsimp only
  unfold wpX_firstMomentWith
  dsimp only
  refine ⟨14, qx_first hok hh 13 0 S (by omega) (fun S' => ?_)⟩
  exact ⟨14, qw_quick hok hh 13 0 ed st en rm fl ca qu (by omega) (fun _ _ _ _ _ _ _ => ⟨rfl, qi_rel hh hok⟩)⟩
theorem i_vc_first {k : Nat} {u : SX} {v : SY} (I : i_Rel k u v) (hk : k + 5 ≤ 2560) : wpX_first (fun r u' => wpY_first (fun r' v' => r' = r ∧ i_Rel (k + 5) u' v') v) u := by
  obtain ⟨h, A, B, C, E, S, st, en, rm, fl, ca, qu, ed, hh, hok, rfl, rfl⟩ := I
  unfold wpX_first
  dsimp only
  unfold wpX_firstMomentWith
  dsimp only
  refine ⟨14, qx_first hok hh 13 0 S (by omega) (fun S' => ?_)⟩
  dsimp only
  unfold wpY_first
  dsimp only
  unfold wpY_quickest
  dsimp only
  exact ⟨14, qw_quick hok hh 13 0 ed st en rm fl ca qu (by omega) (fun _ _ _ _ _ _ _ => ⟨rfl, qi_rel hh hok⟩)⟩
theorem qi_pm (x : Int32) : x + 1 - 1 = x := Int32.add_sub_cancel x 1
theorem i_vc_gain {k : Nat} {u : SX} {v : SY} (I : i_Rel k u v) (hk : k + 5 ≤ 2560) (v1 : Int32) (v2 : Int32) : wpX_gain (fun r u' => wpY_gain (fun r' v' => r' = r ∧ i_Rel (k + 5) u' v') v v1 v2) u v1 v2 := by
  obtain ⟨h, A, B, C, E, S, st, en, rm, fl, ca, qu, ed, hh, hok, rfl, rfl⟩ := I
  have K : (-1 : Int32) = -1 ∧ i_Rel (k + 5) (nI h, A, B, C, E, S) (nI h, ed, A, B, C, E, st, en, rm, fl, ca, qu) := ⟨rfl, qi_rel hh hok⟩
  unfold wpX_gain wpY_gain
  dsimp only
  refine qi_line hh (fun j hj e => br_f (by decide) (qi_mom (fun t ht e2 => br_f (by decide) ?_) (fun y => br_t rfl ?_))) (fun y => br_t rfl ?_)
  · subst e e2
    refine qx_least hok hh ht (fun S' => qx_least hok hh ht (fun S2 => ?_))
    refine qi_bmom (fun t' ht' e' => br_t rfl ?_) (fun y => absurd rfl (y t ht))
    have cj : (nI j).toNatClampNeg = j := nI_clamp (by omega)
    have vj : vp_in (nI j) 8 := vp_in_nI (by omega) (by omega)
    refine br_f (nI_pos (by omega)) (br_t (nI_lt hj (by omega)) (qw_flow0 hok ht hh (fun ed1 st1 en1 rm1 fl1 ca1 qu1 => ?_)))
    refine ⟨vj, vj, nm_r (e' := upd C j (C j + 1)) (by rw [cj]) (qw_flow1 hok ht hh hj (fun ed2 st2 en2 rm2 fl2 ca2 qu2 => ?_))⟩
    have eC : upd (upd C j (C j + 1)) j ((upd C j (C j + 1)) j - 1) = C := by rw [pk_us, qi_pm, qv_up]
    exact ⟨vj, vj, nm_r (e' := C) (by rw [cj]; exact eC) ⟨rfl, qi_rel hh hok⟩⟩
  · exact qi_bmom (fun t ht e => absurd e (y t ht)) (fun _ => br_f (by decide) K)
  · refine qi_bmom (fun t ht e => br_t rfl ?_) (fun _ => br_f (by decide) K)
    rcases pk_ix v1 (n := h) (by omega) with z | z | ⟨j, hj, e⟩
    · exact br_t z K
    · have z1 : ¬ v1 < 0 := fun y => absurd (Int32.lt_of_le_of_lt z y) (nI_pos (n := h) (by omega))
      exact br_f z1 (br_f (Int32.not_lt.mpr z) K)
    · exact absurd e (y j hj)
theorem i_vc_steady {k : Nat} {u : SX} {v : SY} (I : i_Rel k u v) (hk : k + 5 ≤ 2560) : wpX_steady (fun r u' => wpY_steady (fun r' v' => r' = r ∧ i_Rel (k + 5) u' v') v) u := by
  obtain ⟨h, A, B, C, E, S, st, en, rm, fl, ca, qu, ed, hh, hok, rfl, rfl⟩ := I
  unfold wpX_steady
  dsimp only
  refine qx_least (t := 0) hok hh (by omega) (fun S' => ?_)
  dsimp only
  unfold wpY_steady
  dsimp only
  exact qw_flow0 (last := 0) hok (by omega) hh (fun _ _ _ _ _ _ _ => ⟨rfl, qi_rel hh hok⟩)
