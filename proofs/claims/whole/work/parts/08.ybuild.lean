/-! the reference's walks: building the network -/
section QY
variable {h : Nat} {A B C E ca qu : Nat → Int32}
theorem qy_edge {post : SY → Prop} {hd : Int32} {st en rm fl : Nat → Int32} {n x y z : Nat} {x' y' z' : Int32} (hn : n < 170) (hx : x' = nI x) (hy : y' = nI y) (hz : z' = nI z)
    (K : post (hd, nI (n + 1), A, B, C, E, upd st n (nI x), upd en n (nI y), upd rm n (nI z), upd fl n 0, ca, qu)) : wpY_edge post (hd, nI n, A, B, C, E, st, en, rm, fl, ca, qu) x' y' z' := by
  subst hx hy hz
  have e : (nI n).toNatClampNeg = n := nI_clamp (by omega)
  have w : vp_in (nI n) 170 := vp_in_nI hn (by omega)
  exact ⟨w, nm_r (e' := upd st n (nI x)) (by rw [e]) ⟨w, nm_r (e' := upd en n (nI y)) (by rw [e]) ⟨w, nm_r (e' := upd rm n (nI z)) (by rw [e]) ⟨w, nm_r (e' := upd fl n 0) (by rw [e]) (nm_r (nI_1 n) K)⟩⟩⟩⟩
theorem qy_13 (p m : Nat) : (13 : Int32) * nI p + nI m = nI (13 * p + m) := by
  rw [show (13 : Int32) = nI 13 from rfl, pk_mul, nI_add]
theorem qy_102 {post : SY → Prop} {J94 : Int32 → Int32 → Int32 → (Nat → Int32) → (Nat → Int32) → (Nat → Int32) → (Nat → Int32) → (Nat → Int32) → (Nat → Int32) → (Nat → Int32) → (Nat → Int32) → (Nat → Int32) → (Nat → Int32) → Prop} {last p : Nat} {F T W D : Nat → Nat} (hl : last ≤ 12) (hp : p < 5)
    (K : ∀ n st en rm fl, n ≤ 104 + 12 * p + last → qb_B st en rm fl n (qb_GW h last F T W D p last) → J94 (nI (p + 1)) (nI h) (nI n) A B C E st en rm fl ca qu) :
    ∀ (d m n : Nat) (st en rm fl : Nat → Int32), m + d = last → n ≤ 104 + 12 * p + m → qb_B st en rm fl n (qb_GW h last F T W D p m) →
    wY_build_102 post J94 (nI last) (nI p) (d + 1) (nI m) (nI h) (nI n) A B C E st en rm fl ca qu := by
  intro d
  induction d with
  | zero =>
    intro m n st en rm fl hm hn hB
    have e : m = last := by omega
    subst e
    exact br_t (nI_le (Nat.le_refl _) (by omega)) (nm_r (nI_1 p) (K n st en rm fl hn hB))
  | succ d ih =>
    intro m n st en rm fl hm hn hB
    refine br_f (nI_ge (by omega) (by omega)) (qy_edge (by omega) (qy_13 p m) (by rw [qy_13, nI_1]) (show (100000 : Int32) = nI 100000 from rfl) (nm_r (nI_1 m) ?_))
    exact ih (m + 1) (n + 1) _ _ _ _ (by omega) (by omega) (qb_push hB _ _ _ (fun g => qb_GWs h last F T W D p m g))
theorem qy_94 {post : SY → Prop} {last : Nat} {F T W D : Nat → Nat} (hl : last ≤ 12)
    (K : ∀ n st en rm fl, n ≤ 164 → qb_B st en rm fl n (qb_GW h last F T W D 5 0) → post (nI h, nI n, A, B, C, E, st, en, rm, fl, ca, qu)) :
    ∀ (d p n : Nat) (st en rm fl : Nat → Int32), p + d = 5 → n ≤ 104 + 12 * p → qb_B st en rm fl n (qb_GW h last F T W D p 0) →
    wY_build_94 post (nI last) (d + 1) (nI p) (nI h) (nI n) A B C E st en rm fl ca qu := by
  intro d
  induction d with
  | zero =>
    intro p n st en rm fl hp hn hB
    have e : p = 5 := by omega
    subst e
    exact br_t (nI_le (Nat.le_refl 5) (by omega)) (K n st en rm fl (by omega) hB)
  | succ d ih =>
    intro p n st en rm fl hp hn hB
    refine br_f (nI_ge (b := 5) (by omega) (by omega)) ⟨last + 1, ?_⟩
    exact qy_102 hl (by omega) (fun n' st' en' rm' fl' hn' hB' => ih (p + 1) n' st' en' rm' fl' (by omega) (by omega) (qb_cg hB' (fun g => qb_GWn h last F T W D p g))) last 0 n st en rm fl (by omega) (by omega) hB
theorem qy_34 {post : SY → Prop} {J7 : Int32 → Int32 → Int32 → (Nat → Int32) → (Nat → Int32) → (Nat → Int32) → (Nat → Int32) → (Nat → Int32) → (Nat → Int32) → (Nat → Int32) → (Nat → Int32) → (Nat → Int32) → (Nat → Int32) → Prop} {tm x4 : Int32} {last i : Nat} {F T W D : Nat → Nat} (hl : last ≤ 12) (hi : i < 8) (h4 : x4 = nI (D i)) (hD : D i ≤ 3)
    (hA : A i = nI (F i)) (hB' : B i = nI (T i)) (hC : C i = nI (W i))
    (K : ∀ n st en rm fl, n ≤ 13 * (i + 1) → qb_B st en rm fl n (qb_GL last F T W D i (last + 1 - D i)) → J7 (nI (i + 1)) (nI h) (nI n) A B C E st en rm fl ca qu) :
    ∀ (d m n : Nat) (st en rm fl : Nat → Int32), m + d = last + 1 - D i → n ≤ 13 * i + m → qb_B st en rm fl n (qb_GL last F T W D i m) →
    wY_build_34 post J7 (nI last) tm (nI i) x4 (d + 1) (nI m) (nI h) (nI n) A B C E st en rm fl ca qu := by
  subst h4
  intro d
  induction d with
  | zero =>
    intro m n st en rm fl hm hn hB
    have e : m = last + 1 - D i := by omega
    refine br_t (by rw [nI_add]; exact nI_lt (by omega) (by omega)) (nm_r (nI_1 i) (K n st en rm fl (by omega) ?_))
    rw [← e]
    exact hB
  | succ d ih =>
    intro m n st en rm fl hm hn hB
    have ci : (nI i).toNatClampNeg = i := nI_clamp (by omega)
    have vi : vp_in (nI i) 8 := vp_in_nI hi (by omega)
    refine br_f (by rw [nI_add]; exact nI_nlt (by omega) (by omega)) ⟨vi, vi, vi, qy_edge (x := 13 * F i + m) (y := 13 * T i + m + D i) (z := W i) (by omega) (by rw [ci, hA, qy_13]) (by rw [ci, hB', qy_13, nI_add]) (by rw [ci, hC]) (nm_r (nI_1 m) ?_)⟩
    exact ih (m + 1) (n + 1) _ _ _ _ (by omega) (by omega) (qb_push hB _ _ _ (fun g => qb_GLs last F T W D i m g))
theorem qy_7 {post : SY → Prop} {tm : Int32} {last : Nat} {F T W D : Nat → Nat} (hl : last ≤ 12) (hh : h ≤ 8) (hq : qs_ok h F T W D)
    (hA : ∀ i, i < h → A i = nI (F i) ∧ B i = nI (T i) ∧ C i = nI (W i) ∧ (tm = 0 → D i = 0) ∧ (¬ tm = 0 → E i = nI (D i)))
    (K : ∀ n st en rm fl, n ≤ 164 → qb_B st en rm fl n (qb_GW h last F T W D 5 0) → post (nI h, nI n, A, B, C, E, st, en, rm, fl, ca, qu)) :
    ∀ (d i n : Nat) (st en rm fl : Nat → Int32), i + d = h → n ≤ 13 * i → qb_B st en rm fl n (qb_GL last F T W D i 0) →
    wY_build_7 post (nI last) tm (d + 1) (nI i) (nI h) (nI n) A B C E st en rm fl ca qu := by
  intro d
  induction d with
  | zero =>
    intro i n st en rm fl hi hn hB
    have e : i = h := by omega
    subst e
    refine br_t (nI_le (Nat.le_refl _) (by omega)) ⟨6, ?_⟩
    exact qy_94 hl K 5 0 n st en rm fl (by omega) (by omega) (qb_cg hB (fun g => qb_GLW i last F T W D g))
  | succ d ih =>
    intro i n st en rm fl hi hn hB
    obtain ⟨a1, a2, a3, a4, a5⟩ := hA i (by omega)
    obtain ⟨_, _, _, hD⟩ := hq i (by omega)
    have ci : (nI i).toNatClampNeg = i := nI_clamp (by omega)
    have vi : vp_in (nI i) 8 := vp_in_nI (by omega) (by omega)
    have key : ∀ x4 : Int32, x4 = nI (D i) → wY_build_34 post (wY_build_7 post (nI last) tm (d + 1)) (nI last) tm (nI i) x4 (last + 1 - D i + 1) (nI 0) (nI h) (nI n) A B C E st en rm fl ca qu := by
      intro x4 h4
      exact qy_34 hl (by omega) h4 hD a1 a2 a3 (fun n' st' en' rm' fl' hn' hB' => ih (i + 1) n' st' en' rm' fl' (by omega) (by omega) (qb_cg hB' (fun g => qb_GLn last F T W D i g))) (last + 1 - D i) 0 n st en rm fl (by omega) (by omega) hB
    refine br_f (nI_ge (by omega) (by omega)) ?_
    by_cases z : tm = 0
    · exact br_t z ⟨_, key 0 (by rw [a4 z]; rfl)⟩
    · exact br_f z ⟨vi, nm_e ⟨_, key _ (by rw [ci]; exact a5 z)⟩⟩
theorem qy_build {post : SY → Prop} {ed tm : Int32} {st en rm fl : Nat → Int32} {last : Nat} {F T W D : Nat → Nat} (hl : last ≤ 12) (hh : h ≤ 8) (hq : qs_ok h F T W D)
    (hA : ∀ i, i < h → A i = nI (F i) ∧ B i = nI (T i) ∧ C i = nI (W i) ∧ (tm = 0 → D i = 0) ∧ (¬ tm = 0 → E i = nI (D i)))
    (K : ∀ n s d c st en rm fl, n ≤ 164 → (∀ e, e < n → st e = nI (s e) ∧ en e = nI (d e) ∧ rm e = nI (c e) ∧ fl e = 0) → qs_Gr h last F T W D n s d c → post (nI h, nI n, A, B, C, E, st, en, rm, fl, ca, qu)) :
    wpY_build post (nI h, ed, A, B, C, E, st, en, rm, fl, ca, qu) (nI last) tm := by
  refine ⟨h + 1, qy_7 hl hh hq hA (fun n st en rm fl hn hB => ?_) h 0 0 st en rm fl (by omega) (by omega) (qb_0 (fun g => qb_GL0 last F T W D g))⟩
  obtain ⟨s, d, c, h1, h2⟩ := qb_end hB
  exact K n s d c st en rm fl hn h1 h2
end QY
