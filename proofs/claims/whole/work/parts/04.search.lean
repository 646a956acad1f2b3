/-! the reference's search and its sending: what they keep -/
def qr_u (f : Nat → Nat) (e x : Nat) : Nat → Nat := fun j => if j = e then x else f j
theorem qr_us {f : Nat → Nat} {e x : Nat} : qr_u f e x e = x := if_pos rfl
theorem qr_un {f : Nat → Nat} {e x j : Nat} (h : j ≠ e) : qr_u f e x j = f j := if_neg h
theorem qr_neg1 : (-1 : Int32) < 0 := by decide
theorem qr_nn {j : Nat} (h : j < 2 ^ 31) : ¬ nI j < 0 := nI_pos h
/-- v was come to by a step with room (or with something to take back) from a node that was come to before -/
def qr_Par (n : Nat) (s d c f : Nat → Nat) (came : Nat → Int32) (o : Nat → Nat) (v : Nat) : Prop :=
  ∃ e, e < n ∧ ((came v = nI e ∧ d e = v ∧ f e < c e ∧ (¬ came (s e) < 0) ∧ o (s e) < o v) ∨ (came v = nI (200 + e) ∧ s e = v ∧ 0 < f e ∧ (¬ came (d e) < 0) ∧ o (d e) < o v))
/-- step e was looked at from u -/
def qr_Cl (s d c f : Nat → Nat) (came : Nat → Int32) (u e : Nat) : Prop :=
  (s e = u → f e < c e → ¬ came (d e) < 0) ∧ (d e = u → 0 < f e → ¬ came (s e) < 0)
def qr_cnt (came : Nat → Int32) : Nat := qs_n (fun v => if came v < 0 then 0 else 1) 65
def qr_Q (n : Nat) (s d c f : Nat → Nat) (came queue : Nat → Int32) (cnt : Nat) (q o : Nat → Nat) : Prop :=
  (∀ k, k < cnt → queue k = nI (q k) ∧ q k < 65 ∧ ¬ came (q k) < 0) ∧
  (∀ v, v < 65 → ¬ came v < 0 → o v < cnt ∧ q (o v) = v ∧ (v ≠ 0 → qr_Par n s d c f came o v)) ∧
  qr_cnt came = cnt ∧ ¬ came 0 < 0
theorem qr_0 {n : Nat} {s d c f : Nat → Nat} {came queue : Nat → Int32} (h : ∀ v, v < 65 → came v = -1) :
    qr_Q n s d c f (upd came 0 999) (upd queue 0 0) 1 (fun _ => 0) (fun _ => 0) := by
  have h9 : ¬ (upd came 0 999) 0 < 0 := by rw [pk_us]; decide
  have hz : ∀ v, v < 65 → ¬ (upd came 0 999) v < 0 → v = 0 := by
    intro v hv hr
    by_cases e : v = 0
    · exact e
    · rw [pk_un e, h v hv] at hr
      exact absurd qr_neg1 hr
  refine ⟨fun k hk => ?_, fun v hv hr => ?_, ?_, h9⟩
  · have e : k = 0 := by omega
    subst e
    exact ⟨pk_us, by decide, h9⟩
  · have e := hz v hv hr
    exact ⟨Nat.zero_lt_one, e.symm, fun z => absurd e z⟩
  · have h1 : qs_n (fun v => if (upd came 0 999) v < 0 then 0 else 1) 65 = qs_n (fun _ => 0) 65 + 1 := by
      refine qs_nup (k := 0) 65 (by decide) (fun v hv hne => ?_) (if_neg h9)
      by_cases z : (upd came 0 999) v < 0
      · exact if_pos z
      · exact absurd (hz v hv z) hne
    rw [qs_n0 65 (fun _ _ => rfl)] at h1
    exact h1
theorem qr_lt {n : Nat} {s d c f : Nat → Nat} {came queue : Nat → Int32} {cnt : Nat} {q o : Nat → Nat} (H : qr_Q n s d c f came queue cnt q o) {x : Nat} (hx : x < 65) (hn : came x < 0) {val : Int32} (hv : ¬ val < 0) :
    cnt < 65 ∧ qr_cnt (upd came x val) = cnt + 1 := by
  have h1 : qs_n (fun v => if (upd came x val) v < 0 then 0 else 1) 65 = qs_n (fun v => if came v < 0 then 0 else 1) 65 + 1 := by
    refine qs_nup (k := x) 65 hx (fun v hv hne => ?_) ?_
    · show (if (upd came x val) v < 0 then 0 else 1) = (if came v < 0 then 0 else 1)
      rw [pk_un hne]
    · show (if (upd came x val) x < 0 then 0 else 1) = (if came x < 0 then 0 else 1) + 1
      rw [pk_us, if_neg hv, if_pos hn]
  have h2 : qs_n (fun v => if (upd came x val) v < 0 then 0 else 1) 65 ≤ 65 * 1 := by
    refine qs_nle 65 (fun v _ => ?_)
    show (if (upd came x val) v < 0 then 0 else 1) ≤ 1
    by_cases z : (upd came x val) v < 0
    · rw [if_pos z]; decide
    · rw [if_neg z]; decide
  have h3 : qs_n (fun v => if came v < 0 then 0 else 1) 65 = cnt := H.2.2.1
  refine ⟨by omega, ?_⟩
  unfold qr_cnt
  omega
theorem qr_add {n : Nat} {s d c f : Nat → Nat} {came queue : Nat → Int32} {cnt : Nat} {q o : Nat → Nat} (H : qr_Q n s d c f came queue cnt q o) (he : ∀ e, e < n → s e < 65 ∧ d e < 65) {x : Nat} (hx : x < 65) (hn : came x < 0) {val : Int32} (hv : ¬ val < 0)
    (hp : ∃ e, e < n ∧ ((val = nI e ∧ d e = x ∧ f e < c e ∧ ¬ came (s e) < 0) ∨ (val = nI (200 + e) ∧ s e = x ∧ 0 < f e ∧ ¬ came (d e) < 0))) :
    qr_Q n s d c f (upd came x val) (upd queue cnt (nI x)) (cnt + 1) (qr_u q cnt x) (qr_u o x cnt) := by
  have hne : ∀ v, ¬ came v < 0 → v ≠ x := fun v hr e => hr (e ▸ hn)
  have hkeep : ∀ v, ¬ came v < 0 → (upd came x val) v = came v := fun v hr => pk_un (hne v hr)
  obtain ⟨H1, H2, H3, H4⟩ := H
  refine ⟨fun k hk => ?_, fun v hv' hr => ?_, (qr_lt ⟨H1, H2, H3, H4⟩ hx hn hv).2, ?_⟩
  · by_cases e : k = cnt
    · subst e
      refine ⟨?_, ?_, ?_⟩
      · rw [pk_us, qr_us]
      · rw [qr_us]; exact hx
      · rw [qr_us, pk_us]; exact hv
    · obtain ⟨a1, a2, a3⟩ := H1 k (by omega)
      refine ⟨?_, ?_, ?_⟩
      · rw [pk_un e, qr_un e]; exact a1
      · rw [qr_un e]; exact a2
      · rw [qr_un e, hkeep _ a3]; exact a3
  · by_cases e : v = x
    · subst e
      refine ⟨?_, ?_, fun _ => ?_⟩
      · rw [qr_us]; omega
      · rw [qr_us, qr_us]
      · obtain ⟨e, he', hor⟩ := hp
        refine ⟨e, he', ?_⟩
        rcases hor with ⟨b1, b2, b3, b4⟩ | ⟨b1, b2, b3, b4⟩
        · refine Or.inl ⟨by rw [pk_us]; exact b1, b2, b3, by rw [hkeep _ b4]; exact b4, ?_⟩
          rw [qr_un (hne _ b4), qr_us]
          exact (H2 _ (he e he').1 b4).1
        · refine Or.inr ⟨by rw [pk_us]; exact b1, b2, b3, by rw [hkeep _ b4]; exact b4, ?_⟩
          rw [qr_un (hne _ b4), qr_us]
          exact (H2 _ (he e he').2 b4).1
    · have hr' : ¬ came v < 0 := by rw [pk_un e] at hr; exact hr
      obtain ⟨a1, a2, a3⟩ := H2 v hv' hr'
      refine ⟨?_, ?_, fun z => ?_⟩
      · rw [qr_un e]; omega
      · rw [qr_un e, qr_un (show ¬ o v = cnt from by omega)]; exact a2
      · obtain ⟨e', he', hor⟩ := a3 z
        refine ⟨e', he', ?_⟩
        rcases hor with ⟨b1, b2, b3, b4, b5⟩ | ⟨b1, b2, b3, b4, b5⟩
        · refine Or.inl ⟨by rw [pk_un e]; exact b1, b2, b3, by rw [hkeep _ b4]; exact b4, ?_⟩
          rw [qr_un (hne _ b4), qr_un e]
          exact b5
        · refine Or.inr ⟨by rw [pk_un e]; exact b1, b2, b3, by rw [hkeep _ b4]; exact b4, ?_⟩
          rw [qr_un (hne _ b4), qr_un e]
          exact b5
  · rw [hkeep _ H4]; exact H4
theorem qr_keep {came : Nat → Int32} {x : Nat} {val : Int32} (hv : ¬ val < 0) {v : Nat} (h : ¬ came v < 0) : ¬ (upd came x val) v < 0 := by
  by_cases e : v = x
  · rw [e, pk_us]; exact hv
  · rw [pk_un e]; exact h
theorem qr_clk {s d c f : Nat → Nat} {came : Nat → Int32} {x : Nat} {val : Int32} (hv : ¬ val < 0) {u e : Nat} (h : qr_Cl s d c f came u e) : qr_Cl s d c f (upd came x val) u e :=
  ⟨fun a b => qr_keep hv (h.1 a b), fun a b => qr_keep hv (h.2 a b)⟩
/-- the search within: nodes before the i-th are done, of the i-th the steps before e -/
def qr_I (n : Nat) (s d c f : Nat → Nat) (came queue : Nat → Int32) (cnt i e : Nat) : Prop :=
  ∃ q o, qr_Q n s d c f came queue cnt q o ∧ (∀ k, k < i → ∀ e', e' < n → qr_Cl s d c f came (q k) e') ∧ (∀ e', e' < e → qr_Cl s d c f came (q i) e')
/-- the tree of the search -/
def qr_T (n : Nat) (s d c f : Nat → Nat) (came : Nat → Int32) (o : Nat → Nat) : Prop :=
  (∀ v, v < 65 → ¬ came v < 0 → v ≠ 0 → qr_Par n s d c f came o v) ∧ (¬ came 0 < 0)
theorem qr_I0 {n : Nat} {s d c f : Nat → Nat} {came queue : Nat → Int32} (h : ∀ v, v < 65 → came v = -1) : qr_I n s d c f (upd came 0 999) (upd queue 0 0) 1 0 0 :=
  ⟨_, _, qr_0 h, fun k hk => absurd hk (by omega), fun k hk => absurd hk (by omega)⟩
theorem qr_Inext {n : Nat} {s d c f : Nat → Nat} {came queue : Nat → Int32} {cnt i : Nat} (h : qr_I n s d c f came queue cnt i n) : qr_I n s d c f came queue cnt (i + 1) 0 := by
  obtain ⟨q, o, h1, h2, h3⟩ := h
  refine ⟨q, o, h1, fun k hk e he => ?_, fun k hk => absurd hk (by omega)⟩
  by_cases z : k = i
  · rw [z]; exact h3 e he
  · exact h2 k (by omega) e he
theorem qr_Iq {n : Nat} {s d c f : Nat → Nat} {came queue : Nat → Int32} {cnt i e : Nat} (h : qr_I n s d c f came queue cnt i e) (hi : i < cnt) : ∃ u, u < 65 ∧ queue i = nI u ∧ ¬ came u < 0 := by
  obtain ⟨q, o, h1, h2, h3⟩ := h
  obtain ⟨a, b, c⟩ := h1.1 i hi
  exact ⟨q i, b, a, c⟩
theorem qr_Icnt {n : Nat} {s d c f : Nat → Nat} {came queue : Nat → Int32} {cnt i e : Nat} (h : qr_I n s d c f came queue cnt i e) : cnt ≤ 65 := by
  obtain ⟨q, o, h1, h2, h3⟩ := h
  have h4 : qs_n (fun v => if came v < 0 then 0 else 1) 65 = cnt := h1.2.2.1
  have h5 : qs_n (fun v => if came v < 0 then 0 else 1) 65 ≤ 65 * 1 := by
    refine qs_nle 65 (fun v _ => ?_)
    show (if came v < 0 then 0 else 1) ≤ 1
    by_cases z : came v < 0
    · rw [if_pos z]; decide
    · rw [if_neg z]; decide
  omega
/-- a step that leads nowhere new -/
theorem qr_Iskip {n : Nat} {s d c f : Nat → Nat} {came queue : Nat → Int32} {cnt i e u : Nat} (h : qr_I n s d c f came queue cnt i e) (hi : i < cnt) (hu : queue i = nI u) (hu65 : u < 65)
    (h1 : s e = u → f e < c e → ¬ came (d e) < 0) (h2 : d e = u → 0 < f e → ¬ came (s e) < 0) : qr_I n s d c f came queue cnt i (e + 1) := by
  obtain ⟨q, o, a1, a2, a3⟩ := h
  obtain ⟨b1, b2, b3⟩ := a1.1 i hi
  have eu : q i = u := by
    rw [b1] at hu
    exact (nI_eq (by omega) (by omega)).mp hu
  refine ⟨q, o, a1, a2, fun k hk => ?_⟩
  by_cases z : k = e
  · rw [z, eu]; exact ⟨h1, h2⟩
  · exact a3 k (by omega)
/-- a step to a new node x -/
theorem qr_Inew {n : Nat} {s d c f : Nat → Nat} {came queue : Nat → Int32} {cnt i e u x : Nat} {val : Int32} (h : qr_I n s d c f came queue cnt i e) (he65 : ∀ e, e < n → s e < 65 ∧ d e < 65) (hi : i < cnt) (hu : queue i = nI u) (hu65 : u < 65)
    (he : e < n) (hx : x < 65) (hn : came x < 0) (hv : ¬ val < 0)
    (hp : (val = nI e ∧ s e = u ∧ d e = x ∧ f e < c e) ∨ (val = nI (200 + e) ∧ d e = u ∧ s e = x ∧ 0 < f e)) :
    cnt < 65 ∧ qr_I n s d c f (upd came x val) (upd queue cnt (nI x)) (cnt + 1) i (e + 1) := by
  obtain ⟨q, o, a1, a2, a3⟩ := h
  obtain ⟨b1, b2, b3⟩ := a1.1 i hi
  have eu : q i = u := by
    rw [b1] at hu
    exact (nI_eq (by omega) (by omega)).mp hu
  rw [eu] at b3
  have hux : ¬ u = x := fun z => b3 (z ▸ hn)
  refine ⟨(qr_lt a1 hx hn hv).1, _, _, qr_add a1 he65 hx hn hv ⟨e, he, ?_⟩, fun k hk e' he' => ?_, fun k hk => ?_⟩
  · rcases hp with ⟨c1, c2, c3, c4⟩ | ⟨c1, c2, c3, c4⟩
    · exact Or.inl ⟨c1, c3, c4, by rw [c2]; exact b3⟩
    · exact Or.inr ⟨c1, c3, c4, by rw [c2]; exact b3⟩
  · rw [qr_un (show ¬ k = cnt from by omega)]
    exact qr_clk hv (a2 k hk e' he')
  · rw [qr_un (show ¬ i = cnt from by omega)]
    by_cases z : k = e
    · rw [z, eu]
      have hxr : ¬ (upd came x val) x < 0 := by rw [pk_us]; exact hv
      rcases hp with ⟨c1, c2, c3, c4⟩ | ⟨c1, c2, c3, c4⟩
      · refine ⟨fun _ _ => by rw [c3]; exact hxr, fun y _ => ?_⟩
        exact absurd (y.symm.trans c3) hux
      · refine ⟨fun y _ => ?_, fun _ _ => by rw [c3]; exact hxr⟩
        exact absurd (y.symm.trans c3) hux
    · exact qr_clk hv (a3 k (by omega))
/-- the search has ended -/
theorem qr_Iend {n : Nat} {s d c f : Nat → Nat} {came queue : Nat → Int32} {cnt : Nat} (h : qr_I n s d c f came queue cnt cnt 0) (he65 : ∀ e, e < n → s e < 65 ∧ d e < 65) :
    (∃ o, qr_T n s d c f came o) ∧ (∀ e, e < n → ¬ came (s e) < 0 → f e < c e → ¬ came (d e) < 0) ∧ (∀ e, e < n → ¬ came (d e) < 0 → 0 < f e → ¬ came (s e) < 0) ∧ ¬ came 0 < 0 := by
  obtain ⟨q, o, a1, a2, a3⟩ := h
  refine ⟨⟨o, fun v hv hr hz => (a1.2.1 v hv hr).2.2 hz, a1.2.2.2⟩, fun e he hr hf => ?_, fun e he hr hf => ?_, a1.2.2.2⟩
  · obtain ⟨b1, b2, b3⟩ := a1.2.1 (s e) (he65 e he).1 hr
    exact (a2 (o (s e)) b1 e he).1 b2.symm hf
  · obtain ⟨b1, b2, b3⟩ := a1.2.1 (d e) (he65 e he).2 hr
    exact (a2 (o (d e)) b1 e he).2 b2.symm hf
/-- the sending within: from goal back to at -/
def qr_S (n : Nat) (s d c f : Nat → Nat) (came : Nat → Int32) (o : Nat → Nat) (cur k goal : Nat) : Prop :=
  cur < 65 ∧ (¬ came cur < 0) ∧ (∀ e, e < n → f e ≤ c e) ∧
  (∀ φ : Nat → Int, qs_i (fun e => (f e : Int) * (φ (s e) - φ (d e))) n = (k : Int) * (φ 0 - φ goal) + (φ cur - φ goal)) ∧
  (∀ v, v < 65 → ¬ came v < 0 → v ≠ 0 → o v ≤ o cur → qr_Par n s d c f came o v)
theorem qr_S0 {n : Nat} {s d c f : Nat → Nat} {came : Nat → Int32} {o : Nat → Nat} {k goal : Nat} (hT : qr_T n s d c f came o) (hg : goal < 65) (hr : ¬ came goal < 0) (hf : ∀ e, e < n → f e ≤ c e) (hφ : qs_Fl n s d f k goal) : qr_S n s d c f came o goal k goal := by
  refine ⟨hg, hr, hf, fun φ => ?_, fun v hv hr hz _ => hT.1 v hv hr hz⟩
  rw [hφ φ]
  omega
theorem qr_Send {n : Nat} {s d c f : Nat → Nat} {came : Nat → Int32} {o : Nat → Nat} {k goal : Nat} (h : qr_S n s d c f came o 0 k goal) : qs_Fl n s d f ((k + 1 : Nat) : Int) goal := by
  intro φ
  rw [h.2.2.2.1 φ, Int.natCast_add, Int.add_mul]
  show _ = _ + 1 * (φ 0 - φ goal)
  rw [Int.one_mul]
theorem qr_Sstep {n : Nat} {s d c f : Nat → Nat} {came : Nat → Int32} {o : Nat → Nat} {cur k goal : Nat} (he65 : ∀ e, e < n → s e < 65 ∧ d e < 65) (h : qr_S n s d c f came o cur k goal) (h0 : cur ≠ 0) :
    ∃ e, e < n ∧ ((came cur = nI e ∧ f e < c e ∧ o (s e) < o cur ∧ qr_S n s d c (qr_u f e (f e + 1)) came o (s e) k goal)
      ∨ (came cur = nI (200 + e) ∧ 0 < f e ∧ o (d e) < o cur ∧ qr_S n s d c (qr_u f e (f e - 1)) came o (d e) k goal)) := by
  obtain ⟨h1, h2, h3, h4, h5⟩ := h
  obtain ⟨e, he, hor⟩ := h5 cur h1 h2 h0 (Nat.le_refl _)
  refine ⟨e, he, ?_⟩
  rcases hor with ⟨b1, b2, b3, b4, b5⟩ | ⟨b1, b2, b3, b4, b5⟩
  · refine Or.inl ⟨b1, b3, b5, (he65 e he).1, b4, fun j hj => ?_, fun φ => ?_, fun v hv hr hz ho => ?_⟩
    · by_cases z : j = e
      · rw [z, qr_us]; omega
      · rw [qr_un z]; exact h3 j hj
    · have e1 : qs_i (fun j => ((qr_u f e (f e + 1) j : Nat) : Int) * (φ (s j) - φ (d j))) n = qs_i (fun j => (f j : Int) * (φ (s j) - φ (d j))) n + (φ (s e) - φ (d e)) := by
        refine qs_up (k := e) n he (fun j hj hne => ?_) ?_
        · show ((qr_u f e (f e + 1) j : Nat) : Int) * (φ (s j) - φ (d j)) = (f j : Int) * (φ (s j) - φ (d j))
          rw [qr_un hne]
        · show ((qr_u f e (f e + 1) e : Nat) : Int) * (φ (s e) - φ (d e)) = (f e : Int) * (φ (s e) - φ (d e)) + (φ (s e) - φ (d e))
          rw [qr_us, Int.natCast_add, Int.add_mul]
          show _ + 1 * (φ (s e) - φ (d e)) = _
          rw [Int.one_mul]
      rw [e1, h4 φ, b2]
      omega
    · obtain ⟨e', he', hor'⟩ := h5 v hv hr hz (by omega)
      refine ⟨e', he', ?_⟩
      by_cases z : e' = e
      · exfalso
        subst z
        rcases hor' with ⟨c1, c2, c3, c4, c5⟩ | ⟨c1, c2, c3, c4, c5⟩
        · rw [b2] at c2; rw [c2] at b5; omega
        · rw [b2] at c5; omega
      · rw [qr_un z]; exact hor'
  · refine Or.inr ⟨b1, b3, b5, (he65 e he).2, b4, fun j hj => ?_, fun φ => ?_, fun v hv hr hz ho => ?_⟩
    · by_cases z : j = e
      · have := h3 e he
        rw [z, qr_us]; omega
      · rw [qr_un z]; exact h3 j hj
    · have e1 : qs_i (fun j => ((qr_u f e (f e - 1) j : Nat) : Int) * (φ (s j) - φ (d j))) n = qs_i (fun j => (f j : Int) * (φ (s j) - φ (d j))) n + -(φ (s e) - φ (d e)) := by
        refine qs_up (k := e) n he (fun j hj hne => ?_) ?_
        · show ((qr_u f e (f e - 1) j : Nat) : Int) * (φ (s j) - φ (d j)) = (f j : Int) * (φ (s j) - φ (d j))
          rw [qr_un hne]
        · show ((qr_u f e (f e - 1) e : Nat) : Int) * (φ (s e) - φ (d e)) = (f e : Int) * (φ (s e) - φ (d e)) + -(φ (s e) - φ (d e))
          rw [qr_us, show ((f e - 1 : Nat) : Int) = (f e : Int) + -1 from by omega, Int.add_mul]
          rw [Int.neg_mul, Int.one_mul]
      rw [e1, h4 φ, b2]
      omega
    · obtain ⟨e', he', hor'⟩ := h5 v hv hr hz (by omega)
      refine ⟨e', he', ?_⟩
      by_cases z : e' = e
      · exfalso
        subst z
        rcases hor' with ⟨c1, c2, c3, c4, c5⟩ | ⟨c1, c2, c3, c4, c5⟩
        · rw [b2] at c5; omega
        · rw [b2] at c2; rw [c2] at b5; omega
      · rw [qr_un z]; exact hor'
