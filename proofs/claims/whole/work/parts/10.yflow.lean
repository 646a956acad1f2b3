/-! the reference's walks: the sending, the flow, the first moment -/
section QW
variable {A B C E st en rm : Nat → Int32} {n : Nat} {s d c : Nat → Nat} {h : Nat}
theorem qw_send {post : SY → Prop} {k goal : Nat} {ca qu : Nat → Int32} {o : Nat → Nat} (hn : n ≤ 164) (hE : ∀ e, e < n → st e = nI (s e) ∧ en e = nI (d e)) (h65 : ∀ e, e < n → s e < 65 ∧ d e < 65) (hc : ∀ e, e < n → c e ≤ 100000)
    (K : ∀ (f : Nat → Nat) (fl : Nat → Int32), (∀ e, e < n → fl e = nI (f e)) → (∀ e, e < n → f e ≤ c e) → qs_Fl n s d f ((k + 1 : Nat) : Int) goal → post (nI h, nI n, A, B, C, E, st, en, rm, fl, ca, qu)) :
    ∀ (m cur : Nat) (f : Nat → Nat) (fl : Nat → Int32), o cur < m → (∀ e, e < n → fl e = nI (f e)) → qr_S n s d c f ca o cur k goal →
    wY_send_2 post (nI h) (nI n) m (nI cur) A B C E st en rm fl ca qu := by
  intro m
  induction m with
  | zero => intro cur f fl ho; omega
  | succ m ih =>
    intro cur f fl ho hfl hS
    by_cases z : cur = 0
    · subst z
      exact br_t rfl (K f fl hfl hS.2.2.1 (qr_Send hS))
    · have h1 := hS.1
      have cc : (nI cur).toNatClampNeg = cur := nI_clamp (by omega)
      obtain ⟨e, he, hor⟩ := qr_Sstep h65 hS z
      obtain ⟨a1, a2⟩ := hE e he
      have a3 := hfl e he
      have a4 := hc e he
      have a5 := hS.2.2.1 e he
      have ve : vp_in (nI e) 170 := vp_in_nI (by omega) (by omega)
      have ce : (nI e).toNatClampNeg = e := nI_clamp (by omega)
      refine br_f (nI_ne0 (by omega) (by omega)) ⟨vp_in_nI h1 (by omega), ?_⟩
      rcases hor with ⟨b1, b2, b3, b4⟩ | ⟨b1, b2, b3, b4⟩
      · refine nm_r (e' := nI e) (by rw [cc]; exact b1) (br_f (nI_ge (b := 200) (by omega) (by omega)) ⟨ve, ve, nm_r (e' := upd fl e (nI (f e + 1))) (by rw [ce, a3, nI_1]) ⟨ve, nm_r (e' := nI (s e)) (by rw [ce]; exact a1) ?_⟩⟩)
        refine ih (s e) _ _ (by omega) (fun j hj => ?_) b4
        by_cases y : j = e
        · rw [y, pk_us, qr_us]
        · rw [pk_un y, qr_un y]; exact hfl j hj
      · have e200 : nI (200 + e) - 200 = nI e := by
          rw [show (200 : Int32) = nI 200 from rfl, pk_sub (by omega), show 200 + e - 200 = e from by omega]
        have e1 : nI (f e) - 1 = nI (f e - 1) := by
          rw [show (1 : Int32) = nI 1 from rfl, pk_sub (by omega)]
        refine nm_r (e' := nI (200 + e)) (by rw [cc]; exact b1) (br_t (nI_le (a := 200) (by omega) (by omega)) ?_)
        rw [e200]
        refine ⟨ve, ve, nm_r (e' := upd fl e (nI (f e - 1))) (by rw [ce, a3, e1]) ⟨ve, nm_r (e' := nI (d e)) (by rw [ce]; exact a2) ?_⟩⟩
        refine ih (d e) _ _ (by omega) (fun j hj => ?_) b4
        by_cases y : j = e
        · rw [y, pk_us, qr_us]
        · rw [pk_un y, qr_un y]; exact hfl j hj
theorem qw_flow14 {post : Int32 → SY → Prop} {last : Nat} {F T W D : Nat → Nat} (hl : last ≤ 12) (hh : h ≤ 8) (hq : qs_ok h F T W D) (G : qs_Gr h last F T W D n s d c) (hn : n ≤ 164)
    (hE : ∀ e, e < n → st e = nI (s e) ∧ en e = nI (d e) ∧ rm e = nI (c e))
    (K : ∀ (v : Nat) (fl ca qu : Nat → Int32), qs_Min h F T W D (last + 1) v → post (nI v) (nI h, nI n, A, B, C, E, st, en, rm, fl, ca, qu)) :
    ∀ (dd k : Nat) (f : Nat → Nat) (fl ca qu : Nat → Int32), k + dd = 1000 → (∀ e, e < n → fl e = nI (f e)) → (∀ e, e < n → f e ≤ c e) → qs_Fl n s d f (k : Int) (52 + last) →
    wY_flow_14 post (nI (52 + last)) (dd + 1) (nI k) (nI h) (nI n) A B C E st en rm fl ca qu := by
  have hends := qs_ends G hq hl
  have h65 : ∀ e, e < n → s e < 65 ∧ d e < 65 := fun e he => ⟨(hends e he).1, (hends e he).2.1⟩
  have hc : ∀ e, e < n → c e ≤ 100000 := fun e he => (hends e he).2.2
  intro dd
  induction dd with
  | zero =>
    intro k f fl ca qu hk hfl hf hF
    have := qs_520 G hq hh hl hf hF
    omega
  | succ dd ih =>
    intro k f fl ca qu hk hfl hf hF
    have hk5 := qs_520 G hq hh hl hf hF
    refine br_f (nI_ge (b := 1000) (by omega) (by omega)) (qz_search hn (fun e he => ⟨(hE e he).1, (hE e he).2.1, (hE e he).2.2, hfl e he⟩) h65 hf hc (by omega) ?_)
    intro ca' qu' hT h1 h2 h0
    refine ⟨fun z => br_t rfl (K k fl ca' qu' ?_), fun z => br_f (by decide) ?_⟩
    · refine qs_mfmc (R := fun v => !decide (ca' v < 0)) G hq hh hl hf hF ?_ ?_ ?_ ?_ (by omega)
      · show (!decide (ca' 0 < 0)) = true
        rw [decide_eq_false h0]; rfl
      · show (!decide (ca' (52 + last) < 0)) = false
        rw [decide_eq_true z]; rfl
      · intro e he r1 r2 r3
        have r1' : (!decide (ca' (s e) < 0)) = true := r1
        have r2' : (!decide (ca' (d e) < 0)) = false := r2
        have q1 : ¬ ca' (s e) < 0 := fun y => by rw [decide_eq_true y] at r1'; exact absurd r1' (by decide)
        have q2 := h1 e he q1 r3
        rw [decide_eq_false q2] at r2'
        exact absurd r2' (by decide)
      · intro e he r1 r2 r3
        have r1' : (!decide (ca' (d e) < 0)) = true := r1
        have r2' : (!decide (ca' (s e) < 0)) = false := r2
        have q1 : ¬ ca' (d e) < 0 := fun y => by rw [decide_eq_true y] at r1'; exact absurd r1' (by decide)
        have q2 := h2 e he q1 r3
        rw [decide_eq_false q2] at r2'
        exact absurd r2' (by decide)
    · obtain ⟨o, hT⟩ := hT
      refine ⟨o (52 + last) + 1, qw_send hn (fun e he => ⟨(hE e he).1, (hE e he).2.1⟩) h65 hc ?_ _ (52 + last) f fl (by omega) hfl (qr_S0 hT (by omega) z hf hF)⟩
      intro f' fl' hfl' hf' hF'
      exact nm_r (nI_1 k) (ih (k + 1) f' fl' ca' qu' (by omega) hfl' hf' hF')
end QW
section QV
variable {A B C E st en rm fl ca qu : Nat → Int32} {h : Nat}
theorem qw_flow {post : Int32 → SY → Prop} {ed tm : Int32} {last : Nat} {F T W D : Nat → Nat} (hl : last ≤ 12) (hh : h ≤ 8) (hq : qs_ok h F T W D)
    (hA : ∀ i, i < h → A i = nI (F i) ∧ B i = nI (T i) ∧ C i = nI (W i) ∧ (tm = 0 → D i = 0) ∧ (¬ tm = 0 → E i = nI (D i)))
    (K : ∀ (ed : Int32) (st en rm fl ca qu : Nat → Int32), post (nI (qm_v h F T W D (last + 1))) (nI h, ed, A, B, C, E, st, en, rm, fl, ca, qu)) :
    wpY_flow post (nI h, ed, A, B, C, E, st, en, rm, fl, ca, qu) (nI last) tm := by
  refine qy_build (ed := ed) hl hh hq hA ?_
  intro n s d c st' en' rm' fl' hn hE G
  refine nm_r (e' := nI (52 + last)) (by rw [show (52 : Int32) = nI 52 from rfl, nI_add]) ⟨1001, ?_⟩
  refine qw_flow14 hl hh hq G hn (fun e he => ⟨(hE e he).1, (hE e he).2.1, (hE e he).2.2.1⟩) (fun v fl ca qu hM => ?_) 1000 0 (fun _ => 0) fl' ca qu (by omega) (fun e he => (hE e he).2.2.2) (fun e _ => Nat.zero_le _) qb_Fl0
  rw [qm_is hM]
  exact K _ _ _ _ _ _ _
/-- the flow over the lines as they are held, one of them perhaps one wider -/
theorem qw_flow0 {post : Int32 → SY → Prop} {ed tm : Int32} {last : Nat} (hok : qv_ok h A B C E) (hl : last ≤ 12) (hh : h ≤ 8)
    (K : ∀ (ed : Int32) (st en rm fl ca qu : Nat → Int32), post (nI (qm_v h (qv_n A) (qv_n B) (qv_W C (-1)) (qv_D E tm) (last + 1))) (nI h, ed, A, B, C, E, st, en, rm, fl, ca, qu)) :
    wpY_flow post (nI h, ed, A, B, C, E, st, en, rm, fl, ca, qu) (nI last) tm := by
  refine qw_flow hl hh (qv_qs hok (-1) tm) (fun i hi => ?_) K
  obtain ⟨a1, a2, a3, a4, _⟩ := qv_at hok hi
  refine ⟨a1, a2, ?_, fun z => qv_D0 z, fun z => ?_⟩
  · rw [qv_W0 (qv_m1 (by omega))]; exact a3
  · rw [qv_D1 z]; exact a4
theorem qw_flow1 {post : Int32 → SY → Prop} {ed tm : Int32} {last j : Nat} (hok : qv_ok h A B C E) (hl : last ≤ 12) (hh : h ≤ 8) (hj : j < h)
    (K : ∀ (ed : Int32) (st en rm fl ca qu : Nat → Int32), post (nI (qm_v h (qv_n A) (qv_n B) (qv_W C (nI j)) (qv_D E tm) (last + 1))) (nI h, ed, A, B, upd C j (C j + 1), E, st, en, rm, fl, ca, qu)) :
    wpY_flow post (nI h, ed, A, B, upd C j (C j + 1), E, st, en, rm, fl, ca, qu) (nI last) tm := by
  refine qw_flow hl hh (qv_qs hok (nI j) tm) (fun i hi => ?_) K
  obtain ⟨a1, a2, a3, a4, _⟩ := qv_at hok hi
  refine ⟨a1, a2, ?_, fun z => qv_D0 z, fun z => ?_⟩
  · by_cases e : i = j
    · rw [e] at a3
      rw [e, pk_us, qv_W1 rfl, a3, nI_1]
    · rw [pk_un e, qv_W0 (fun z => e ((nI_eq (by omega) (by omega)).mp z))]; exact a3
  · rw [qv_D1 z]; exact a4
theorem qw_quick {post : Int32 → SY → Prop} {amt : Int32} (hok : qv_ok h A B C E) (hh : h ≤ 8) :
    ∀ (d t : Nat) (ed : Int32) (st en rm fl ca qu : Nat → Int32), t + d = 13 → (∀ ed st en rm fl ca qu, post (qm_f (fun t => qm_v h (qv_n A) (qv_n B) (qv_W C (-1)) (qv_D E 1) (t + 1)) amt d t) (nI h, ed, A, B, C, E, st, en, rm, fl, ca, qu)) →
    wY_quickest_2 post amt (d + 1) (nI t) (nI h) ed A B C E st en rm fl ca qu := by
  intro d
  induction d with
  | zero =>
    intro t ed st en rm fl ca qu ht K
    have e : t = 13 := by omega
    subst e
    exact br_t (by decide) (K _ _ _ _ _ _ _)
  | succ d ih =>
    intro t ed st en rm fl ca qu ht K
    refine br_f (nI_nlt (a := 12) (by omega) (by omega)) (qw_flow0 hok (by omega) hh (fun ed st en rm fl ca qu => ?_))
    by_cases z : nI (qm_v h (qv_n A) (qv_n B) (qv_W C (-1)) (qv_D E 1) (t + 1)) < amt
    · rw [qm_f1 (val := fun t => qm_v h (qv_n A) (qv_n B) (qv_W C (-1)) (qv_D E 1) (t + 1)) (t := t) z] at K
      exact br_t z (nm_r (nI_1 t) (ih (t + 1) _ _ _ _ _ _ _ (by omega) K))
    · rw [qm_f0 (val := fun t => qm_v h (qv_n A) (qv_n B) (qv_W C (-1)) (qv_D E 1) (t + 1)) (t := t) z] at K
      exact br_f z (K _ _ _ _ _ _ _)
end QV
