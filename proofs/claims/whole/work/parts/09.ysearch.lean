/-! the reference's walks: the search -/
section QZ
variable {A B C E st en rm fl : Nat → Int32} {post : Int32 → SY → Prop}
  {J41 J49 : Int32 → Int32 → (Nat → Int32) → (Nat → Int32) → (Nat → Int32) → (Nat → Int32) → (Nat → Int32) → (Nat → Int32) → (Nat → Int32) → (Nat → Int32) → (Nat → Int32) → (Nat → Int32) → Prop}
  {n : Nat} {s d c f : Nat → Nat} {hd ed x1 : Int32}
theorem qz_217 {ca qu : Nat → Int32} {x3 val : Int32} {cnt e x : Nat} (hx : x < 65) (hc : cnt < 65) (K : J49 (nI (cnt + 1)) (nI (e + 1)) A B C E st en rm fl (upd ca x val) (upd qu cnt (nI x))) :
    wY_search_217 post J41 J49 x1 (nI cnt) x3 (nI e) (nI x) val (nI x) hd ed A B C E st en rm fl ca qu := by
  have e1 : (nI x).toNatClampNeg = x := nI_clamp (by omega)
  have e2 : (nI cnt).toNatClampNeg = cnt := nI_clamp (by omega)
  exact ⟨vp_in_nI hx (by omega), nm_r (e' := upd ca x val) (by rw [e1]) ⟨vp_in_nI hc (by omega), nm_r (e' := upd qu cnt (nI x)) (by rw [e2]) (nm_r (nI_1 cnt) (nm_r (nI_1 e) K))⟩⟩
theorem qz_159a {ca qu : Nat → Int32} {x3 z : Int32} {cnt e : Nat} (he : e < 170) (hen : en e = nI (d e)) (hx : d e < 65) (hc : cnt < 65) (K : J49 (nI (cnt + 1)) (nI (e + 1)) A B C E st en rm fl (upd ca (d e) (nI e)) (upd qu cnt (nI (d e)))) :
    wY_search_159 post J41 J49 x1 (nI cnt) x3 (nI e) 1 z hd ed A B C E st en rm fl ca qu := by
  have ve : vp_in (nI e) 170 := vp_in_nI he (by omega)
  have b : en (nI e).toNatClampNeg = nI (d e) := by rw [nI_clamp (by omega)]; exact hen
  unfold wY_search_159
  rw [b]
  exact br_f (by decide) ⟨ve, br_f (by decide) (br_f (by decide) (qz_217 hx hc K))⟩
theorem qz_159b {ca qu : Nat → Int32} {x3 : Int32} {cnt e : Nat} (he : e < 170) (hst : st e = nI (s e)) (hx : s e < 65) (hc : cnt < 65) (K : J49 (nI (cnt + 1)) (nI (e + 1)) A B C E st en rm fl (upd ca (s e) (nI (200 + e))) (upd qu cnt (nI (s e)))) :
    wY_search_159 post J41 J49 x1 (nI cnt) x3 (nI e) 0 1 hd ed A B C E st en rm fl ca qu := by
  have ve : vp_in (nI e) 170 := vp_in_nI he (by omega)
  have b : st (nI e).toNatClampNeg = nI (s e) := by rw [nI_clamp (by omega)]; exact hst
  have e200 : (200 : Int32) + nI e = nI (200 + e) := by rw [show (200 : Int32) = nI 200 from rfl, nI_add]
  rw [← e200] at K
  unfold wY_search_159
  rw [b]
  exact br_t rfl ⟨ve, br_t rfl (br_f (by decide) (br_t rfl (qz_217 hx hc K)))⟩
theorem qz_159c {ca qu : Nat → Int32} {x2 x3 : Int32} {e : Nat} (he : e < 170) (K : J49 x2 (nI (e + 1)) A B C E st en rm fl ca qu) :
    wY_search_159 post J41 J49 x1 x2 x3 (nI e) 0 0 hd ed A B C E st en rm fl ca qu := by
  have ve : vp_in (nI e) 170 := vp_in_nI he (by omega)
  exact br_t rfl ⟨ve, br_t rfl (br_t rfl (nm_r (nI_1 e) K))⟩
theorem qz_111 {ca qu : Nat → Int32} {x2 z : Int32} {i e u : Nat} (he : e < 170) (hi : i < 65) (hst : st e = nI (s e)) (hen : en e = nI (d e)) (hfl : fl e = nI (f e)) (hs : s e < 65) (hd' : d e < 65) (hf : f e ≤ 100000) (hqu : qu i = nI u) (hu : u < 65)
    (K1 : d e = u → 0 < f e → ca (s e) < 0 → wY_search_159 post J41 J49 x1 x2 (nI i) (nI e) z 1 hd ed A B C E st en rm fl ca qu)
    (K0 : (d e = u → 0 < f e → ¬ ca (s e) < 0) → wY_search_159 post J41 J49 x1 x2 (nI i) (nI e) z 0 hd ed A B C E st en rm fl ca qu) :
    wY_search_111 post J41 J49 x1 x2 (nI i) (nI e) z hd ed A B C E st en rm fl ca qu := by
  have ve : vp_in (nI e) 170 := vp_in_nI he (by omega)
  have vi : vp_in (nI i) 65 := vp_in_nI hi (by omega)
  have ce : (nI e).toNatClampNeg = e := nI_clamp (by omega)
  have ci : (nI i).toNatClampNeg = i := nI_clamp (by omega)
  have cs : (nI (s e)).toNatClampNeg = s e := nI_clamp (by omega)
  unfold wY_search_111 wY_search_158
  rw [ce, ci, hen, hqu, hfl, hst, cs]
  refine ⟨ve, vi, ?_⟩
  by_cases z1 : d e = u
  · refine br_t (congrArg nI z1) ⟨ve, ?_⟩
    by_cases z2 : 0 < f e
    · refine br_f (nI_nle z2 (by omega)) ⟨ve, vp_in_nI hs (by omega), ?_⟩
      by_cases z3 : ca (s e) < 0
      · exact br_f (fun y => absurd z3 (Int32.not_lt.mpr y)) (K1 z1 z2 z3)
      · exact br_t (Int32.not_lt.mp z3) (K0 (fun _ _ => z3))
    · have z4 : f e = 0 := by omega
      exact br_t (by rw [z4]; decide) (K0 (fun _ y => absurd y z2))
  · exact br_f (fun y => z1 ((nI_eq (by omega) (by omega)).mp y)) (K0 (fun y => absurd y z1))
end QZ
section QZ2
variable {A B C E st en rm fl : Nat → Int32} {post : Int32 → SY → Prop} {n : Nat} {s d c f : Nat → Nat} {hd : Int32}
theorem qz_49 {J41 : Int32 → Int32 → (Nat → Int32) → (Nat → Int32) → (Nat → Int32) → (Nat → Int32) → (Nat → Int32) → (Nat → Int32) → (Nat → Int32) → (Nat → Int32) → (Nat → Int32) → (Nat → Int32) → Prop} {x1 : Int32} {i : Nat}
    (hn : n ≤ 164) (hE : ∀ e, e < n → st e = nI (s e) ∧ en e = nI (d e) ∧ rm e = nI (c e) ∧ fl e = nI (f e)) (h65 : ∀ e, e < n → s e < 65 ∧ d e < 65) (hf : ∀ e, e < n → f e ≤ c e) (hc : ∀ e, e < n → c e ≤ 100000)
    (K : ∀ cnt ca qu, i < cnt → qr_I n s d c f ca qu cnt i n → J41 (nI cnt) (nI (i + 1)) A B C E st en rm fl ca qu) :
    ∀ (dd e cnt : Nat) (ca qu : Nat → Int32), e + dd = n → i < cnt → qr_I n s d c f ca qu cnt i e →
    wY_search_49 post J41 x1 (nI i) hd (nI n) (dd + 1) (nI cnt) (nI e) A B C E st en rm fl ca qu := by
  intro dd
  induction dd with
  | zero =>
    intro e cnt ca qu he hi hI
    have ee : e = n := by omega
    subst ee
    exact br_t (nI_le (Nat.le_refl _) (by omega)) (nm_r (nI_1 i) (K cnt ca qu hi hI))
  | succ dd ih =>
    intro e cnt ca qu he hi hI
    have hlt : e < n := by omega
    obtain ⟨a1, a2, a3, a4⟩ := hE e hlt
    obtain ⟨a5, a6⟩ := h65 e hlt
    have a7 := hf e hlt
    have a8 := hc e hlt
    have hc65 := qr_Icnt hI
    obtain ⟨u, hu, hqu, hru⟩ := qr_Iq hI hi
    have ve : vp_in (nI e) 170 := vp_in_nI (by omega) (by omega)
    have vi : vp_in (nI i) 65 := vp_in_nI (by omega) (by omega)
    have ce : (nI e).toNatClampNeg = e := nI_clamp (by omega)
    have ci : (nI i).toNatClampNeg = i := nI_clamp (by omega)
    have cd : (nI (d e)).toNatClampNeg = d e := nI_clamp (by omega)
    have hon : s e = u → f e < c e → ca (d e) < 0 → wY_search_111 post J41 (wY_search_49 post J41 x1 (nI i) hd (nI n) (dd + 1)) x1 (nI cnt) (nI i) (nI e) 1 hd (nI n) A B C E st en rm fl ca qu := by
      intro z1 z2 z3
      obtain ⟨b1, b2⟩ := qr_Inew hI h65 hi hqu hu hlt a6 z3 (nI_pos (n := e) (by omega)) (Or.inl ⟨rfl, z1, rfl, z2⟩)
      have nx := qz_159a (z := 1) (post := post) (J41 := J41) (x1 := x1) (x3 := nI i) (hd := hd) (ed := nI n) (show e < 170 from by omega) a2 a6 b1 (ih (e + 1) (cnt + 1) _ _ (by omega) (by omega) b2)
      have nx' := qz_159a (z := 0) (post := post) (J41 := J41) (x1 := x1) (x3 := nI i) (hd := hd) (ed := nI n) (show e < 170 from by omega) a2 a6 b1 (ih (e + 1) (cnt + 1) _ _ (by omega) (by omega) b2)
      exact qz_111 (by omega) (by omega) a1 a2 a4 a5 a6 (by omega) hqu hu (fun _ _ _ => nx) (fun _ => nx')
    have hoff : (s e = u → f e < c e → ¬ ca (d e) < 0) → wY_search_111 post J41 (wY_search_49 post J41 x1 (nI i) hd (nI n) (dd + 1)) x1 (nI cnt) (nI i) (nI e) 0 hd (nI n) A B C E st en rm fl ca qu := by
      intro z
      refine qz_111 (by omega) (by omega) a1 a2 a4 a5 a6 (by omega) hqu hu (fun z1 z2 z3 => ?_) (fun z' => ?_)
      · obtain ⟨b1, b2⟩ := qr_Inew hI h65 hi hqu hu hlt a5 z3 (nI_pos (n := 200 + e) (by omega)) (Or.inr ⟨rfl, z1, rfl, z2⟩)
        exact qz_159b (by omega) a1 a5 b1 (ih (e + 1) (cnt + 1) _ _ (by omega) (by omega) b2)
      · exact qz_159c (by omega) (ih (e + 1) cnt ca qu (by omega) hi (qr_Iskip hI hi hqu hu z z'))
    rw [wY_search_49]
    refine br_f (nI_ge hlt (by omega)) ?_
    rw [ce, ci, a1, a2, a3, a4, hqu, cd]
    refine ⟨ve, vi, ?_⟩
    by_cases z1 : s e = u
    · refine br_t (congrArg nI z1) ⟨ve, ve, ?_⟩
      by_cases z2 : f e < c e
      · refine br_f (nI_ge z2 (by omega)) ⟨ve, vp_in_nI a6 (by omega), ?_⟩
        by_cases z3 : ca (d e) < 0
        · exact br_f (fun y => absurd z3 (Int32.not_lt.mpr y)) (hon z1 z2 z3)
        · exact br_t (Int32.not_lt.mp z3) (hoff (fun _ _ => z3))
      · exact br_t (nI_le (by omega) (by omega)) (hoff (fun _ y => absurd y z2))
    · exact br_f (fun y => z1 ((nI_eq (by omega) (by omega)).mp y)) (hoff (fun y => absurd y z1))
theorem qz_41 {h goal : Nat} (hn : n ≤ 164) (hE : ∀ e, e < n → st e = nI (s e) ∧ en e = nI (d e) ∧ rm e = nI (c e) ∧ fl e = nI (f e)) (h65 : ∀ e, e < n → s e < 65 ∧ d e < 65) (hf : ∀ e, e < n → f e ≤ c e) (hc : ∀ e, e < n → c e ≤ 100000) (hg : goal < 65)
    (K : ∀ ca qu, (∃ o, qr_T n s d c f ca o) → (∀ e, e < n → ¬ ca (s e) < 0 → f e < c e → ¬ ca (d e) < 0) → (∀ e, e < n → ¬ ca (d e) < 0 → 0 < f e → ¬ ca (s e) < 0) → ¬ ca 0 < 0 →
      (ca goal < 0 → post 0 (nI h, nI n, A, B, C, E, st, en, rm, fl, ca, qu)) ∧ (¬ ca goal < 0 → post 1 (nI h, nI n, A, B, C, E, st, en, rm, fl, ca, qu))) :
    ∀ (dd i cnt : Nat) (ca qu : Nat → Int32), i + dd = 65 → i ≤ cnt → qr_I n s d c f ca qu cnt i 0 →
    wY_search_41 post (nI goal) (nI h) (nI n) (dd + 1) (nI cnt) (nI i) A B C E st en rm fl ca qu := by
  have vg : vp_in (nI goal) 65 := vp_in_nI hg (by omega)
  have cg : (nI goal).toNatClampNeg = goal := nI_clamp (by omega)
  have hend : ∀ (m cnt : Nat) (ca qu : Nat → Int32), cnt ≤ 65 → qr_I n s d c f ca qu cnt cnt 0 → wY_search_41 post (nI goal) (nI h) (nI n) (m + 1) (nI cnt) (nI cnt) A B C E st en rm fl ca qu := by
    intro m cnt ca qu h5 hI
    obtain ⟨h1, h2, h3, h4⟩ := qr_Iend hI h65
    rw [wY_search_41]
    refine br_t (nI_le (Nat.le_refl _) (by omega)) ⟨vg, ?_⟩
    rw [cg]
    exact K ca qu h1 h2 h3 h4
  intro dd
  induction dd with
  | zero =>
    intro i cnt ca qu hi hic hI
    have h5 := qr_Icnt hI
    have e : i = cnt := by omega
    subst e
    exact hend 0 i ca qu h5 hI
  | succ dd ih =>
    intro i cnt ca qu hi hic hI
    have h5 := qr_Icnt hI
    by_cases e : i = cnt
    · subst e
      exact hend _ i ca qu h5 hI
    · rw [wY_search_41]
      refine br_f (nI_ge (by omega) (by omega)) ⟨n + 1, ?_⟩
      exact qz_49 hn hE h65 hf hc (fun cnt' ca' qu' hi' hI' => ih (i + 1) cnt' ca' qu' (by omega) (by omega) (qr_Inext hI')) n 0 cnt ca qu (by omega) (by omega) hI
theorem qz_search {h goal : Nat} {ca qu : Nat → Int32} (hn : n ≤ 164) (hE : ∀ e, e < n → st e = nI (s e) ∧ en e = nI (d e) ∧ rm e = nI (c e) ∧ fl e = nI (f e)) (h65 : ∀ e, e < n → s e < 65 ∧ d e < 65) (hf : ∀ e, e < n → f e ≤ c e) (hc : ∀ e, e < n → c e ≤ 100000) (hg : goal < 65)
    (K : ∀ ca qu, (∃ o, qr_T n s d c f ca o) → (∀ e, e < n → ¬ ca (s e) < 0 → f e < c e → ¬ ca (d e) < 0) → (∀ e, e < n → ¬ ca (d e) < 0 → 0 < f e → ¬ ca (s e) < 0) → ¬ ca 0 < 0 →
      (ca goal < 0 → post 0 (nI h, nI n, A, B, C, E, st, en, rm, fl, ca, qu)) ∧ (¬ ca goal < 0 → post 1 (nI h, nI n, A, B, C, E, st, en, rm, fl, ca, qu))) :
    wpY_search post (nI h, nI n, A, B, C, E, st, en, rm, fl, ca, qu) (nI goal) := by
  have main : ∀ (dd v : Nat) (ca : Nat → Int32), v + dd = 65 → (∀ w, w < v → ca w = -1) → wY_search_2 post (nI goal) (nI h) (nI n) (dd + 1) (nI v) A B C E st en rm fl ca qu := by
    intro dd
    induction dd with
    | zero =>
      intro v ca hv hca
      have e : v = 65 := by omega
      subst e
      refine br_t (nI_le (Nat.le_refl 65) (by omega)) (nm_e (nm_e ⟨66, ?_⟩))
      exact qz_41 hn hE h65 hf hc hg K 65 0 1 _ _ (by omega) (by omega) (qr_I0 hca)
    | succ dd ih =>
      intro v ca hv hca
      have cv : (nI v).toNatClampNeg = v := nI_clamp (by omega)
      refine br_f (nI_ge (b := 65) (by omega) (by omega)) ⟨vp_in_nI (by omega) (by omega), nm_r (e' := upd ca v (-1)) (by rw [cv]) (nm_r (nI_1 v) (ih (v + 1) _ (by omega) (fun w hw => ?_)))⟩
      by_cases e : w = v
      · rw [e, pk_us]
      · rw [pk_un e]; exact hca w (by omega)
  exact ⟨66, main 65 0 ca (by omega) (fun w hw => absurd hw (by omega))⟩
end QZ2
