/-! EQUATIONS are solved just when their PAIRS agree and their LEFT sides fit. -/
def vC (bs : List (List Nat)) (c : Int32) : Prop := bv (arN c) (bs.getD (kN c) []) ∧ okC (bs.getD (kN c) []) 1 = true
theorem sub_okF : ∀ (b : List Nat) (n : Nat) (a1 a2 : List Int32), okC b n = true → (∀ c ∈ b, 1 ≤ c ∧ c ≤ 6) → (cf 1 b = 0 ∨ okF a1 1 = true) → (cf 2 b = 0 ∨ okF a2 1 = true) → okF (sub b a1 a2) n = true
  | [], n, a1, a2, h, _, _, _ => by
    cases n with
    | zero => rfl
    | succ n => cases h
  | d :: r, 0, a1, a2, h, _, _, _ => by cases h
  | d :: r, k + 1, a1, a2, h, hd, h1, h2 => by
    have hr : okC r (k + arC d) = true := h
    have hd0 := hd d List.mem_cons_self
    rw [cf] at h1 h2
    have ih := sub_okF r (k + arC d) a1 a2 hr (fun c hc => hd c (List.mem_cons_of_mem _ hc)) (h1.imp (fun e => by omega) id) (h2.imp (fun e => by omega) id)
    have e : sub (d :: r) a1 a2 = (if d = 1 then a1 else if d = 2 then a2 else [ltN d]) ++ sub r a1 a2 := rfl
    rw [e]
    by_cases e1 : d = 1
    · subst e1
      rw [if_pos rfl] at h1 ⊢
      have ha : okF a1 1 = true := by
        rcases h1 with h | h
        · omega
        · exact h
      rw [Nat.add_comm k 1]
      exact okF_app _ _ 1 k ha ih
    · by_cases e2 : d = 2
      · subst e2
        rw [if_pos rfl] at h2
        rw [if_neg (by omega), if_pos rfl]
        have ha : okF a2 1 = true := by
          rcases h2 with h | h
          · omega
          · exact h
        rw [Nat.add_comm k 1]
        exact okF_app _ _ 1 k ha ih
      · rw [if_neg e1, if_neg e2]
        show okF (sub r a1 a2) (k + arN (ltN d)) = true
        rw [arN_ltN d (by omega)]
        exact ih
theorem gl_ok {bs : List (List Nat)} : ∀ (x : List Int32) (n : Nat), okF x n = true → (∀ c ∈ x, vC bs c) → ∀ v ∈ ev (grf bs) x, okF v 1 = true
  | [], n, _, _, v, hv => by simp [ev] at hv
  | c :: x, n, h, hc, v, hv => by
    obtain ⟨k, rfl, h2⟩ := okF_cons h
    have hlen := (ev_app (grf bs) x [] _ h2).2
    have ih := gl_ok x _ h2 (fun d hd => hc d (List.mem_cons_of_mem _ hd))
    rw [ev, List.mem_cons] at hv
    rcases hv with rfl | hv
    · obtain ⟨⟨b1, b2, b3⟩, b4⟩ := hc c List.mem_cons_self
      have key : ∀ j, j < arN c → okF (((ev (grf bs) x).take (arN c)).getD j []) 1 = true := by
        intro j hj
        exact ih _ (List.mem_of_mem_take (getD_mem (l := (ev (grf bs) x).take (arN c)) (by rw [List.length_take]; omega)))
      refine sub_okF _ 1 _ _ b4 b1.2 ?_ ?_
      · by_cases h : arN c < 1
        · exact Or.inl (b2 h)
        · exact Or.inr (key 0 (by omega))
      · by_cases h : arN c < 2
        · exact Or.inl (b3 h)
        · exact Or.inr (key 1 (by omega))
    · exact ih v (List.mem_of_mem_drop hv)
theorem flat_inj : ∀ (as bs : List (List Int32)), as.length = bs.length → (∀ v ∈ as, okF v 1 = true) → (∀ v ∈ bs, okF v 1 = true) → as.flatten = bs.flatten → as = bs
  | [], [], _, _, _, _ => rfl
  | [], _ :: _, h, _, _, _ => by simp at h
  | _ :: _, [], h, _, _, _ => by simp at h
  | a :: as, b :: bs, h, ha, hb, e => by
    rw [List.flatten_cons, List.flatten_cons] at e
    have h1 := okF_tlen a as.flatten 1 (ha a List.mem_cons_self)
    have h2 := okF_tlen b bs.flatten 1 (hb b List.mem_cons_self)
    rw [e, h2] at h1
    obtain ⟨e1, e2⟩ := List.append_inj e h1.symm
    rw [e1, flat_inj as bs (by simpa using h) (fun v hv => ha v (List.mem_cons_of_mem _ hv)) (fun v hv => hb v (List.mem_cons_of_mem _ hv)) e2]
theorem grf_rig {bs : List (List Nat)} (hr : rig bs) {c : Int32} (hk : ¬ kdI c = -1) (hf : ¬ fxI c = 1) {as : List (List Int32)} (ha : as.length = arN c) : grf bs c as = c :: as.flatten := by
  have h6 := kN_rig hk hf
  have h10 := (kN_ok hk).2
  have key : ∀ c ∈ ([85, 86, 87, 88, 89, 90, 97, 98, 102, 103] : List Int32), fxI c = 1 ∨ (c = 97 ∧ kN c = 6 ∧ arN c = 0) ∨ (c = 98 ∧ kN c = 7 ∧ arN c = 0) ∨ (c = 102 ∧ kN c = 8 ∧ arN c = 1) ∨ (c = 103 ∧ kN c = 9 ∧ arN c = 2) := by decide
  rcases key c (letters10 hk) with h | ⟨h, k, a⟩ | ⟨h, k, a⟩ | ⟨h, k, a⟩ | ⟨h, k, a⟩
  · exact absurd h hf
  all_goals
    rw [grf, hr _ h6 h10, k, h]
    rw [a] at ha
  · rw [List.length_eq_zero_iff.mp ha]; rfl
  · rw [List.length_eq_zero_iff.mp ha]; rfl
  · obtain ⟨v, rfl⟩ := List.length_eq_one_iff.mp ha
    rfl
  · match as, ha with
    | [v, v2], _ => rfl
theorem grw_appn {bs : List (List Nat)} {x r : List Int32} {n : Nat} (h : okF x (n + 1) = true) : grw bs (x ++ r) = grw bs x := by
  obtain ⟨e1, e2⟩ := ev_app (grf bs) x r _ h
  rw [grw, grw, e1]
  cases hx : ev (grf bs) x with
  | nil => rw [hx] at e2; simp at e2
  | cons v l => rfl
def nclP (l : List Int32) (z : Nat × Nat) : Prop := fxI (l.getD z.1 0) = 1 ∨ fxI (l.getD z.2 0) = 1
theorem pw_spec {l : List Int32} {bs : List (List Nat)} (hr : rig bs) : ∀ (f n p q : Nat) (x xr y yr : List Int32), l.drop p = x ++ xr → okF x n = true → l.drop q = y ++ yr → okF y n = true → (x.length ≤ f ∨ y.length ≤ f) → (∀ c ∈ x, vC bs c ∧ ¬ kdI c = -1) → (∀ c ∈ y, vC bs c ∧ ¬ kdI c = -1) → p + x.length ≤ q →
    (ev (grf bs) x = ev (grf bs) y ↔ ∀ z ∈ pw l f n p q, nclP l z ∧ grw bs (l.drop z.1) = grw bs (l.drop z.2)) ∧ (∀ z ∈ pw l f n p q, (grw bs (l.drop z.1)).length ≤ ((ev (grf bs) x).map List.length).sum) ∧ ∀ z ∈ pw l f n p q, pOK l z := by
  intro f
  induction f with
  | zero =>
    intro n p q x xr y yr h1 h2 h3 h4 h5 h6 h7 h8
    have hn : n = 0 := by
      rcases h5 with h | h
      · rw [List.length_eq_zero_iff.mp (by omega : x.length = 0)] at h2; exact okF_nil h2
      · rw [List.length_eq_zero_iff.mp (by omega : y.length = 0)] at h4; exact okF_nil h4
    subst hn
    have hx : x = [] := by
      cases x with
      | nil => rfl
      | cons c x => obtain ⟨k, hk, -⟩ := okF_cons h2; omega
    have hy : y = [] := by
      cases y with
      | nil => rfl
      | cons c x => obtain ⟨k, hk, -⟩ := okF_cons h4; omega
    subst hx hy
    refine ⟨⟨fun _ z hz => by simp [pw] at hz, fun _ => rfl⟩, fun z hz => by simp [pw] at hz, fun z hz => by simp [pw] at hz⟩
  | succ f ih =>
    intro n p q x xr y yr h1 h2 h3 h4 h5 h6 h7 h8
    cases n with
    | zero =>
      have hx : x = [] := by
        cases x with
        | nil => rfl
        | cons c x => obtain ⟨k, hk, -⟩ := okF_cons h2; omega
      have hy : y = [] := by
        cases y with
        | nil => rfl
        | cons c x => obtain ⟨k, hk, -⟩ := okF_cons h4; omega
      subst hx hy
      refine ⟨⟨fun _ z hz => by simp [pw] at hz, fun _ => rfl⟩, fun z hz => by simp [pw] at hz, fun z hz => by simp [pw] at hz⟩
    | succ n =>
      cases x with
      | nil => cases h2
      | cons c x =>
      cases y with
      | nil => cases h4
      | cons d y =>
      obtain ⟨p1, p2, p3⟩ := drop_head h1
      obtain ⟨q1, q2, q3⟩ := drop_head h3
      have o2 : okF x (n + arN c) = true := h2
      have o4 : okF y (n + arN d) = true := h4
      have lx := (ev_app (grf bs) x [] _ o2).2
      have ly := (ev_app (grf bs) y [] _ o4).2
      have vx := gl_ok (bs := bs) x _ o2 (fun e he => (h6 e (List.mem_cons_of_mem _ he)).1)
      have vy := gl_ok (bs := bs) y _ o4 (fun e he => (h7 e (List.mem_cons_of_mem _ he)).1)
      rw [List.length_cons] at h8
      rw [pw, p2, q2]
      by_cases hcd : c = d ∧ fxI c = 0
      · rw [if_pos hcd]
        obtain ⟨rfl, hf⟩ := hcd
        have hkc := (h6 c List.mem_cons_self).2
        have hf1 : ¬ fxI c = 1 := by rw [hf]; decide
        obtain ⟨i1, i2, i3⟩ := ih (n + arN c) (p + 1) (q + 1) x xr y yr p3 o2 q3 o4 (by simp only [List.length_cons] at h5; omega) (fun e he => h6 e (List.mem_cons_of_mem _ he)) (fun e he => h7 e (List.mem_cons_of_mem _ he)) (by omega)
        have gx := grf_rig hr hkc hf1 (as := (ev (grf bs) x).take (arN c)) (by rw [List.length_take]; omega)
        have gy := grf_rig hr hkc hf1 (as := (ev (grf bs) y).take (arN c)) (by rw [List.length_take]; omega)
        refine ⟨?_, fun z hz => ?_, i3⟩
        · rw [← i1, ev, ev, gx, gy]
          constructor
          · intro h
            rw [List.cons.injEq, List.cons.injEq] at h
            have e1 := flat_inj _ _ (by rw [List.length_take, List.length_take]; omega) (fun v hv => vx v (List.mem_of_mem_take hv)) (fun v hv => vy v (List.mem_of_mem_take hv)) h.1.2
            rw [← List.take_append_drop (arN c) (ev (grf bs) x), e1, h.2, List.take_append_drop]
          · intro h
            rw [h]
        · refine Nat.le_trans (i2 z hz) ?_
          rw [ev, gx]
          conv => lhs; rw [← List.take_append_drop (arN c) (ev (grf bs) x)]
          rw [List.map_append, List.sum_append, List.map_cons, List.sum_cons, List.length_cons, List.length_flatten]
          omega
      · rw [if_neg hcd]
        have t1 := tlen_app (x := c :: x) (r := xr) (a := 1) (b := n) (by rw [Nat.add_comm]; exact h2)
        have t2 := tlen_app (x := d :: y) (r := yr) (a := 1) (b := n) (by rw [Nat.add_comm]; exact h4)
        have e1 := ev_drop (grf bs) (c :: x) 1
        have e2 := ev_drop (grf bs) (d :: y) 1
        have l1 := tlen_le (c :: x) 1
        have l2 := tlen_le (d :: y) 1
        have t1p := tlen_pos h2
        have t2p := tlen_pos h4
        have d1 := drop_split h1 l1
        have d2 := drop_split h3 l2
        have k1 := okF_drop (c :: x) 1 n (by rw [Nat.add_comm]; exact h2)
        have k2 := okF_drop (d :: y) 1 n (by rw [Nat.add_comm]; exact h4)
        rw [h1, h3, t1, t2]
        obtain ⟨i1, i2, i3⟩ := ih n _ _ _ _ _ _ d1 k1 d2 k2 (by rw [List.length_drop, List.length_drop]; omega) (fun e he => h6 e (List.mem_of_mem_drop he)) (fun e he => h7 e (List.mem_of_mem_drop he)) (by rw [List.length_drop]; rw [List.length_cons] at *; omega)
        have g1 : grw bs (l.drop p) = (ev (grf bs) (c :: x)).headD [] := by rw [h1, grw_appn h2, grw]
        have g2 : grw bs (l.drop q) = (ev (grf bs) (d :: y)).headD [] := by rw [h3, grw_appn h4, grw]
        have c1 : ev (grf bs) (c :: x) = (ev (grf bs) (c :: x)).headD [] :: ev (grf bs) ((c :: x).drop (tlen (c :: x) 1)) := by rw [← e1]; rfl
        have c2 : ev (grf bs) (d :: y) = (ev (grf bs) (d :: y)).headD [] :: ev (grf bs) ((d :: y).drop (tlen (d :: y) 1)) := by rw [← e2]; rfl
        refine ⟨?_, ?_, ?_⟩
        · rw [List.forall_mem_cons, ← i1, g1, g2]
          constructor
          · intro h
            refine ⟨⟨?_, by rw [h]⟩, by rw [← e1, ← e2, h]⟩
            rw [nclP, p2, q2]
            by_cases fc : fxI c = 1
            · exact Or.inl fc
            · by_cases fd : fxI d = 1
              · exact Or.inr fd
              · exfalso
                rw [ev, ev, grf_rig hr (h6 c List.mem_cons_self).2 fc (by rw [List.length_take]; omega), grf_rig hr (h7 d List.mem_cons_self).2 fd (by rw [List.length_take]; omega), List.cons.injEq, List.cons.injEq] at h
                rcases fxI_or c with f0 | f0
                · exact hcd ⟨h.1.1, f0⟩
                · exact fc f0
          · rintro ⟨⟨-, h⟩, h'⟩
            rw [c1, c2, h, h']
        · rw [List.forall_mem_cons]
          refine ⟨?_, fun z hz => Nat.le_trans (i2 z hz) ?_⟩
          · rw [g1]
            conv => rhs; rw [c1]
            rw [List.map_cons, List.sum_cons]
            omega
          · conv => rhs; rw [c1]
            rw [List.map_cons, List.sum_cons]
            omega
        · rw [List.forall_mem_cons]
          refine ⟨⟨(c :: x).take (tlen (c :: x) 1), (c :: x).drop (tlen (c :: x) 1) ++ xr, (d :: y).take (tlen (d :: y) 1), (d :: y).drop (tlen (d :: y) 1) ++ yr, ?_, ?_, ?_, ?_, ?_⟩, i3⟩
          · rw [← List.append_assoc, List.take_append_drop, h1]
          · exact okF_take (c :: x) 1 n (by rw [Nat.add_comm]; exact h2)
          · rw [← List.append_assoc, List.take_append_drop, h3]
          · exact okF_take (d :: y) 1 n (by rw [Nat.add_comm]; exact h4)
          · rw [List.length_take]
            rw [List.length_cons] at *
            show p + _ ≤ q
            omega
/-- all EQUATIONS are solved -/
def slv (bs : List (List Nat)) : List (List Int32) → Bool
  | u :: v :: E => decide ((grw bs u).length ≤ 200) && decide (grw bs u = grw bs v) && slv bs E
  | _ => true
theorem ev_one {bs : List (List Nat)} {u : List Int32} (h : okF u 1 = true) : ev (grf bs) u = [grw bs u] := by
  have e := (ev_app (grf bs) u [] 1 h).2
  obtain ⟨v, hv⟩ := List.length_eq_one_iff.mp e
  rw [grw, hv]; rfl
theorem prs_spec {l : List Int32} {bs : List (List Nat)} (hr : rig bs) : ∀ (k : Nat) (Z : List (List Int32)), Z.length ≤ k → ∀ (a : Nat), l.drop a = Z.flatten → (∀ t ∈ Z, okF t 1 = true) → Z.flatten.length ≤ 40 → (∀ c ∈ Z.flatten, vC bs c ∧ ¬ kdI c = -1) →
    (slv bs Z = true ↔ (∀ e, e < Z.length / 2 → (grw bs (l.drop (a + pre Z (2 * e)))).length ≤ 200) ∧ ∀ z ∈ prs l Z a, nclP l z ∧ agP l bs z) ∧ ∀ z ∈ prs l Z a, pOK l z := by
  intro k
  induction k with
  | zero =>
    intro Z hZ a h1 h2 h3 h4
    rw [List.length_eq_zero_iff.mp (by omega : Z.length = 0)]
    exact ⟨⟨fun _ => ⟨fun e he => by simp at he, fun z hz => by simp [prs] at hz⟩, fun _ => rfl⟩, fun z hz => by simp [prs] at hz⟩
  | succ k ih =>
    intro Z hZ a h1 h2 h3 h4
    match Z, hZ, h1, h2, h3, h4 with
    | [], _, _, _, _, _ => exact ⟨⟨fun _ => ⟨fun e he => by simp at he, fun z hz => by simp [prs] at hz⟩, fun _ => rfl⟩, fun z hz => by simp [prs] at hz⟩
    | [u], _, _, _, _, _ => exact ⟨⟨fun _ => ⟨fun e he => by simp at he, fun z hz => by simp [prs] at hz⟩, fun _ => rfl⟩, fun z hz => by simp [prs] at hz⟩
    | u :: v :: Z, hZ, h1, h2, h3, h4 =>
      rw [List.flatten_cons, List.flatten_cons] at h1 h3 h4
      have ou := h2 u List.mem_cons_self
      have ov := h2 v (List.mem_cons_of_mem _ List.mem_cons_self)
      have d2 : l.drop (a + u.length) = v ++ Z.flatten := by rw [← List.drop_drop, h1, List.drop_left]
      have d3 : l.drop (a + u.length + v.length) = Z.flatten := by rw [← List.drop_drop, d2, List.drop_left]
      rw [List.length_append, List.length_append] at h3
      obtain ⟨i1, i2⟩ := ih Z (by simp only [List.length_cons] at hZ; omega) (a + u.length + v.length) d3 (fun t ht => h2 t (List.mem_cons_of_mem _ (List.mem_cons_of_mem _ ht))) (by omega) (fun c hc => h4 c (by simp only [List.mem_append]; exact Or.inr (Or.inr hc)))
      obtain ⟨j1, j2, j3⟩ := pw_spec hr 20 1 a (a + u.length) u (v ++ Z.flatten) v Z.flatten h1 ou d2 ov (by omega) (fun c hc => h4 c (by simp only [List.mem_append]; exact Or.inl hc)) (fun c hc => h4 c (by simp only [List.mem_append]; exact Or.inr (Or.inl hc))) (Nat.le_refl _)
      rw [ev_one ou] at j2
      rw [ev_one ou, ev_one ov, List.cons.injEq] at j1
      have gu : grw bs (l.drop a) = grw bs u := by rw [h1, grw_app ou]
      rw [prs]
      refine ⟨?_, fun z hz => ?_⟩
      · rw [slv, Bool.and_eq_true, Bool.and_eq_true, decide_eq_true_eq, decide_eq_true_eq, i1]
        have hpre : ∀ e, a + pre (u :: v :: Z) (2 * (e + 1)) = a + u.length + v.length + pre Z (2 * e) := by
          intro e
          rw [pre, pre, show 2 * (e + 1) = 2 * e + 1 + 1 by omega, List.take_succ_cons, List.take_succ_cons, List.flatten_cons, List.flatten_cons, List.length_append, List.length_append]
          omega
        constructor
        · rintro ⟨⟨s1, s2⟩, s3, s4⟩
          refine ⟨fun e he => ?_, fun z hz => ?_⟩
          · cases e with
            | zero =>
              show (grw bs (l.drop (a + 0))).length ≤ 200
              rw [Nat.add_zero, gu]
              exact s1
            | succ e =>
              rw [hpre e]
              exact s3 e (by simp only [List.length_cons] at he; omega)
          · rcases List.mem_append.mp hz with hz | hz
            · obtain ⟨a1, a2⟩ := j1.mp ⟨s2, rfl⟩ z hz
              have := j2 z hz
              simp only [List.map_cons, List.map_nil, List.sum_cons, List.sum_nil] at this
              exact ⟨a1, by omega, a2⟩
            · exact s4 z hz
        · rintro ⟨s1, s2⟩
          refine ⟨⟨?_, (j1.mpr (fun z hz => ⟨(s2 z (List.mem_append_left _ hz)).1, (s2 z (List.mem_append_left _ hz)).2.2⟩)).1⟩, fun e he => ?_, fun z hz => s2 z (List.mem_append_right _ hz)⟩
          · have := s1 0 (by simp only [List.length_cons]; omega)
            have e0 : a + pre (u :: v :: Z) (2 * 0) = a := rfl
            rw [e0, gu] at this
            exact this
          · have := s1 (e + 1) (by simp only [List.length_cons]; omega)
            rw [hpre e] at this
            exact this
      · rcases List.mem_append.mp hz with hz | hz
        · exact j3 z hz
        · exact i2 z hz
