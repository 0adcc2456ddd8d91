/-! PAIRS, taken apart one after the other: the pure side. -/
def adq (f : Nat) (x y : List Int32) : Prop := x.length ≤ f ∨ y.length ≤ f
theorem pw_zero (l : List Int32) (f p q : Nat) : pw l f 0 p q = [] := by cases f <;> rfl
theorem pw_fuel {l : List Int32} : ∀ (f f' n p q : Nat) (x xr y yr : List Int32), l.drop p = x ++ xr → okF x n = true → l.drop q = y ++ yr → okF y n = true → adq f x y → adq f' x y → pw l f n p q = pw l f' n p q := by
  intro f
  induction f with
  | zero =>
    intro f' n p q x xr y yr h1 h2 h3 h4 a1 a2
    cases n with
    | zero => rw [pw_zero, pw_zero]
    | succ n =>
      have p1 := okF_pos h2 (by omega)
      have p2 := okF_pos h4 (by omega)
      rcases a1 with a | a <;> omega
  | succ f ih =>
    intro f' n p q x xr y yr h1 h2 h3 h4 a1 a2
    cases n with
    | zero => rw [pw_zero, pw_zero]
    | succ n =>
      cases x with
      | nil => cases h2
      | cons c x =>
      cases y with
      | nil => cases h4
      | cons d y =>
      obtain ⟨k1, k2, k3⟩ := drop_head h1
      obtain ⟨k4, k5, k6⟩ := drop_head h3
      cases f' with
      | zero => rcases a2 with a | a <;> simp at a
      | succ f' =>
      rw [pw, pw, k2, k5]
      have b1 : x.length ≤ f ∨ y.length ≤ f := by rcases a1 with a | a <;> rw [List.length_cons] at a <;> omega
      have b2 : x.length ≤ f' ∨ y.length ≤ f' := by rcases a2 with a | a <;> rw [List.length_cons] at a <;> omega
      by_cases hcd : c = d ∧ fxI c = 0
      · rw [if_pos hcd, if_pos hcd]
        obtain ⟨rfl, -⟩ := hcd
        exact ih f' (n + arN c) (p + 1) (q + 1) x xr y yr k3 h2 k6 h4 b1 b2
      · rw [if_neg hcd, if_neg hcd]
        have hxl : tlen (l.drop p) 1 = tlen (c :: x) 1 := by rw [h1]; exact tlen_app (b := n) (by rw [Nat.add_comm]; exact h2)
        have hyl : tlen (l.drop q) 1 = tlen (d :: y) 1 := by rw [h3]; exact tlen_app (b := n) (by rw [Nat.add_comm]; exact h4)
        have hxp := tlen_pos h2
        have hyp := tlen_pos h4
        have hxle := tlen_le (c :: x) 1
        have hyle := tlen_le (d :: y) 1
        rw [hxl, hyl]
        congr 1
        refine ih f' n _ _ ((c :: x).drop (tlen (c :: x) 1)) xr ((d :: y).drop (tlen (d :: y) 1)) yr (drop_split h1 hxle) (okF_drop _ 1 n (by rw [Nat.add_comm]; exact h2)) (drop_split h3 hyle) (okF_drop _ 1 n (by rw [Nat.add_comm]; exact h4)) ?_ ?_
        · rw [adq, List.length_drop, List.length_drop, List.length_cons, List.length_cons]; omega
        · rw [adq, List.length_drop, List.length_drop, List.length_cons, List.length_cons]; omega
theorem pw_split {l : List Int32} : ∀ (f a b p q : Nat) (x xr y yr : List Int32), l.drop p = x ++ xr → okF x (a + b) = true → l.drop q = y ++ yr → okF y (a + b) = true → adq f x y → pw l f (a + b) p q = pw l f a p q ++ pw l f b (p + tlen x a) (q + tlen y a) := by
  intro f
  induction f with
  | zero => intro a b p q x xr y yr h1 h2 h3 h4 a1; rfl
  | succ f ih =>
    intro a b p q x xr y yr h1 h2 h3 h4 a1
    cases a with
    | zero => rw [pw_zero, tlen_zero, tlen_zero, Nat.zero_add]; rfl
    | succ a =>
      rw [show a + 1 + b = (a + b) + 1 by omega] at h2 h4 ⊢
      cases x with
      | nil => cases h2
      | cons c x =>
      cases y with
      | nil => cases h4
      | cons d y =>
      obtain ⟨k1, k2, k3⟩ := drop_head h1
      obtain ⟨k4, k5, k6⟩ := drop_head h3
      have b1 : x.length ≤ f ∨ y.length ≤ f := by rcases a1 with a | a <;> rw [List.length_cons] at a <;> omega
      have hle1 := tlen_le (c :: x) (a + 1)
      have hle2 := tlen_le (d :: y) (a + 1)
      have hx2 : okF (c :: x) (a + 1 + b) = true := by rw [show a + 1 + b = (a + b) + 1 by omega]; exact h2
      have hy2 : okF (d :: y) (a + 1 + b) = true := by rw [show a + 1 + b = (a + b) + 1 by omega]; exact h4
      have tp1 : 1 ≤ tlen (c :: x) (a + 1) := by rw [tlen]; omega
      have tp2 : 1 ≤ tlen (d :: y) (a + 1) := by rw [tlen]; omega
      have hfl : pw l (f + 1) b (p + tlen (c :: x) (a + 1)) (q + tlen (d :: y) (a + 1)) = pw l f b (p + tlen (c :: x) (a + 1)) (q + tlen (d :: y) (a + 1)) := by
        refine pw_fuel (f + 1) f b _ _ ((c :: x).drop (tlen (c :: x) (a + 1))) xr ((d :: y).drop (tlen (d :: y) (a + 1))) yr (drop_split h1 hle1) (okF_drop _ (a + 1) b hx2) (drop_split h3 hle2) (okF_drop _ (a + 1) b hy2) ?_ ?_
        · rw [adq, List.length_drop, List.length_drop, List.length_cons, List.length_cons]; omega
        · rw [adq, List.length_drop, List.length_drop, List.length_cons, List.length_cons]; omega
      rw [hfl, pw, pw, k2, k5]
      by_cases hcd : c = d ∧ fxI c = 0
      · rw [if_pos hcd, if_pos hcd]
        obtain ⟨rfl, -⟩ := hcd
        have e2 : okF x (a + arN c + b) = true := by rw [show a + arN c + b = a + b + arN c by omega]; exact h2
        have e4 : okF y (a + arN c + b) = true := by rw [show a + arN c + b = a + b + arN c by omega]; exact h4
        rw [show a + b + arN c = a + arN c + b by omega, ih (a + arN c) b (p + 1) (q + 1) x xr y yr k3 e2 k6 e4 b1, tlen, tlen, ← Nat.add_assoc, ← Nat.add_assoc]
      · rw [if_neg hcd, if_neg hcd]
        have hx1 : okF (c :: x) (1 + (a + b)) = true := by rw [Nat.add_comm]; exact h2
        have hy1 : okF (d :: y) (1 + (a + b)) = true := by rw [Nat.add_comm]; exact h4
        have hxl : tlen (l.drop p) 1 = tlen (c :: x) 1 := by rw [h1]; exact tlen_app (b := a + b) hx1
        have hyl : tlen (l.drop q) 1 = tlen (d :: y) 1 := by rw [h3]; exact tlen_app (b := a + b) hy1
        have hxp := tlen_pos h2
        have hyp := tlen_pos h4
        have hxle := tlen_le (c :: x) 1
        have hyle := tlen_le (d :: y) 1
        have t1 := tlen_add (c :: x) 1 a
        have t2 := tlen_add (d :: y) 1 a
        rw [Nat.add_comm 1 a] at t1 t2
        rw [hxl, hyl, List.cons_append]
        congr 1
        rw [ih a b _ _ ((c :: x).drop (tlen (c :: x) 1)) xr ((d :: y).drop (tlen (d :: y) 1)) yr (drop_split h1 hxle) (okF_drop _ 1 _ hx1) (drop_split h3 hyle) (okF_drop _ 1 _ hy1) (by rw [adq, List.length_drop, List.length_drop, List.length_cons, List.length_cons]; omega), t1, t2, Nat.add_assoc, Nat.add_assoc]
/-- EQUATIONS as PAIRS of places -/
def eqP : List (List Int32) → Nat → List (Nat × Nat)
  | u :: v :: E, a => (a, a + u.length) :: eqP E (a + u.length + v.length)
  | _, _ => []
def pwz (l : List Int32) (z : Nat × Nat) : List (Nat × Nat) := pw l 20 1 z.1 z.2
theorem eqP_prs (l : List Int32) : ∀ (n : Nat) (E : List (List Int32)) (a : Nat), E.length ≤ n → (eqP E a).flatMap (pwz l) = prs l E a
  | _, [], a, _ => rfl
  | _, [_], a, _ => rfl
  | n + 1, u :: v :: E, a, h => by
    rw [eqP, List.flatMap_cons, prs, eqP_prs l n E _ (by simp at h; omega)]
    rfl
  | 0, u :: v :: E, a, h => by simp at h
theorem eqP_get : ∀ (n : Nat) (E : List (List Int32)) (a : Nat), E.length ≤ n → (eqP E a).length = E.length / 2 ∧ ∀ e, e < E.length / 2 → (eqP E a).getD e (0, 0) = (a + pre E (2 * e), a + pre E (2 * e + 1))
  | _, [], a, _ => ⟨rfl, fun e h => by simp at h⟩
  | _, [_], a, _ => ⟨by simp [eqP], fun e h => by simp at h⟩
  | 0, u :: v :: E, a, h => by simp at h
  | n + 1, u :: v :: E, a, h => by
    obtain ⟨i1, i2⟩ := eqP_get n E (a + u.length + v.length) (by simp at h; omega)
    refine ⟨by rw [eqP, List.length_cons, i1, List.length_cons, List.length_cons]; omega, fun e he => ?_⟩
    rw [List.length_cons, List.length_cons] at he
    cases e with
    | zero => simp [eqP, pre]
    | succ e =>
      rw [eqP, getD_cons, i2 e (by omega)]
      have k : ∀ k, pre (u :: v :: E) (k + 2) = u.length + v.length + pre E k := by
        intro k
        rw [pre, List.take_succ_cons, List.take_succ_cons, List.flatten_cons, List.flatten_cons, List.length_append, List.length_append, pre]
        omega
      rw [show 2 * (e + 1) = 2 * e + 2 by omega, show 2 * e + 2 + 1 = 2 * e + 1 + 2 by omega, k, k]
      congr 1 <;> omega
def entL (l : List Int32) (z : Nat × Nat) : Nat := tlen (l.drop z.1) 1 + tlen (l.drop z.2) 1
theorem pOK_ent {l : List Int32} {z : Nat × Nat} (h : pOK l z) : 2 ≤ entL l z := by
  obtain ⟨x, xr, y, yr, h1, h2, h3, h4, h5⟩ := h
  rw [entL, h1, h3, okF_tlen x xr 1 h2, okF_tlen y yr 1 h4]
  have := okF_pos h2 (by omega)
  have := okF_pos h4 (by omega)
  omega
theorem eqP_ok {l : List Int32} : ∀ (n : Nat) (E : List (List Int32)) (a : Nat), E.length ≤ n → l.drop a = E.flatten → (∀ t ∈ E, okF t 1 = true) → (∀ z ∈ eqP E a, pOK l z) ∧ ((eqP E a).map (entL l)).sum ≤ E.flatten.length
  | _, [], a, _, _, _ => ⟨fun z hz => by simp [eqP] at hz, by simp [eqP]⟩
  | _, [_], a, _, _, _ => ⟨fun z hz => by simp [eqP] at hz, by simp [eqP]⟩
  | 0, u :: v :: E, a, h, _, _ => by simp at h
  | n + 1, u :: v :: E, a, h, hd, ho => by
    have hu := ho u (by simp)
    have hv := ho v (by simp)
    rw [List.flatten_cons, List.flatten_cons] at hd
    have d2 : l.drop (a + u.length) = v ++ E.flatten := by rw [← List.drop_drop, hd, List.drop_left]
    have d3 : l.drop (a + u.length + v.length) = E.flatten := by rw [← List.drop_drop, d2, List.drop_left]
    obtain ⟨i1, i2⟩ := eqP_ok n E _ (by simp at h; omega) d3 (fun t ht => ho t (by simp [ht]))
    refine ⟨fun z hz => ?_, ?_⟩
    · rw [eqP, List.mem_cons] at hz
      rcases hz with rfl | hz
      · exact ⟨u, _, v, _, hd, hu, d2, hv, Nat.le_refl _⟩
      · exact i1 z hz
    · rw [eqP, List.map_cons, List.sum_cons, List.flatten_cons, List.flatten_cons, List.length_append, List.length_append, entL]
      dsimp only
      rw [hd, d2, okF_tlen u _ 1 hu, okF_tlen v _ 1 hv]
      omega
/-- what holds while PAIRS are taken apart: those that stand, those still to look at -/
def tkI (l : List Int32) (R D T : List (Nat × Nat)) : Prop := D ++ T.flatMap (pwz l) = R ∧ (∀ z ∈ T, pOK l z) ∧ 2 * D.length + (T.map (entL l)).sum ≤ 40
theorem tkI_len {l : List Int32} : ∀ (T : List (Nat × Nat)), (∀ z ∈ T, pOK l z) → 2 * T.length ≤ (T.map (entL l)).sum
  | [], _ => by simp
  | z :: T, h => by
    have h1 := tkI_len T (fun y hy => h y (List.mem_cons_of_mem _ hy))
    have h2 := pOK_ent (h z List.mem_cons_self)
    rw [List.length_cons, List.map_cons, List.sum_cons]
    omega
/-- a PAIR's parts -/
def kids (l : List Int32) (z : Nat × Nat) : List (Nat × Nat) := if arN (l.getD z.1 0) = 0 then [] else if arN (l.getD z.1 0) = 1 then [(z.1 + 1, z.2 + 1)] else [(z.1 + 1, z.2 + 1), (z.1 + 1 + tlen (l.drop (z.1 + 1)) 1, z.2 + 1 + tlen (l.drop (z.2 + 1)) 1)]
theorem tk_keep {l : List Int32} {R D T : List (Nat × Nat)} {z : Nat × Nat} (h : tkI l R D (z :: T)) (hn : ¬ (l.getD z.1 0 = l.getD z.2 0 ∧ fxI (l.getD z.1 0) = 0)) : tkI l R (D ++ [z]) T := by
  obtain ⟨h1, h2, h3⟩ := h
  refine ⟨?_, fun y hy => h2 y (List.mem_cons_of_mem _ hy), ?_⟩
  · rw [List.flatMap_cons, pwz, pw, if_neg hn, pw_zero] at h1
    rw [List.append_assoc]
    exact h1
  · have := pOK_ent (h2 z List.mem_cons_self)
    rw [List.map_cons, List.sum_cons] at h3
    rw [List.length_append, List.length_singleton]
    omega
theorem tk_apart {l : List Int32} {R D T : List (Nat × Nat)} {z : Nat × Nat} (h : tkI l R D (z :: T)) (hs : l.getD z.1 0 = l.getD z.2 0 ∧ fxI (l.getD z.1 0) = 0) : tkI l R D (kids l z ++ T) ∧ ((kids l z ++ T).map (entL l)).sum + 2 ≤ ((z :: T).map (entL l)).sum := by
  obtain ⟨h1, h2, h3⟩ := h
  obtain ⟨p, q⟩ := z
  obtain ⟨x, xr, y, yr, d1, o1, d2, o2, ho⟩ := h2 (p, q) List.mem_cons_self
  dsimp only at d1 d2 ho hs
  have hT : ∀ z ∈ T, pOK l z := fun y hy => h2 y (List.mem_cons_of_mem _ hy)
  rw [List.map_cons, List.sum_cons] at h3
  have he : entL l (p, q) = x.length + y.length := by rw [entL]; dsimp only; rw [d1, d2, okF_tlen x xr 1 o1, okF_tlen y yr 1 o2]
  cases x with
  | nil => cases o1
  | cons c x =>
  cases y with
  | nil => cases o2
  | cons d y =>
  obtain ⟨k1, k2, k3⟩ := drop_head d1
  obtain ⟨k4, k5, k6⟩ := drop_head d2
  rw [k2, k5] at hs
  obtain ⟨rfl, hfx⟩ := hs
  have o1' : okF x (0 + arN c) = true := o1
  have o2' : okF y (0 + arN c) = true := o2
  rw [Nat.zero_add] at o1' o2'
  rw [List.length_cons, List.length_cons] at he
  rw [List.length_cons] at ho
  have hpw : pwz l (p, q) = pw l 19 (arN c) (p + 1) (q + 1) := by
    rw [pwz, pw]
    dsimp only
    rw [k2, k5, if_pos ⟨rfl, hfx⟩, Nat.zero_add]
  rw [List.flatMap_cons, hpw] at h1
  have had : adq 19 x y := by
    rw [adq]
    omega
  have had2 : adq 20 x y := by
    rw [adq]
    omega
  rw [List.map_cons, List.sum_cons, he]
  rcases (show arN c = 0 ∨ arN c = 1 ∨ arN c = 2 by have := arN_le c; omega) with ha | ha | ha
  · have hk : kids l (p, q) = [] := by rw [kids]; dsimp only; rw [k2, if_pos ha]
    rw [hk, List.nil_append]
    rw [ha, pw_zero] at h1
    exact ⟨⟨h1, hT, by omega⟩, by omega⟩
  · have hk : kids l (p, q) = [(p + 1, q + 1)] := by rw [kids]; dsimp only; rw [k2, if_neg (by omega), if_pos ha]
    rw [hk]
    rw [ha] at h1 o1' o2'
    have hz : pOK l (p + 1, q + 1) := ⟨x, xr, y, yr, k3, o1', k6, o2', by dsimp only; omega⟩
    have he2 : entL l (p + 1, q + 1) = x.length + y.length := by rw [entL]; dsimp only; rw [k3, k6, okF_tlen x xr 1 o1', okF_tlen y yr 1 o2']
    rw [List.singleton_append, List.map_cons, List.sum_cons, he2]
    refine ⟨⟨?_, fun z hz2 => by rcases List.mem_cons.mp hz2 with rfl | hz2; exact hz; exact hT z hz2, by rw [List.map_cons, List.sum_cons, he2]; omega⟩, by omega⟩
    rw [List.flatMap_cons, pwz]
    dsimp only
    rw [pw_fuel 20 19 1 _ _ x xr y yr k3 o1' k6 o2' had2 had]
    exact h1
  · rw [ha] at h1 o1' o2'
    have tx : tlen (l.drop (p + 1)) 1 = tlen x 1 := by rw [k3]; exact tlen_app (b := 1) o1'
    have ty : tlen (l.drop (q + 1)) 1 = tlen y 1 := by rw [k6]; exact tlen_app (b := 1) o2'
    have hk : kids l (p, q) = [(p + 1, q + 1), (p + 1 + tlen x 1, q + 1 + tlen y 1)] := by rw [kids]; dsimp only; rw [k2, if_neg (by omega), if_neg (by omega), tx, ty]
    have x1 := okF_take x 1 1 o1'
    have x2 := okF_drop x 1 1 o1'
    have y1 := okF_take y 1 1 o2'
    have y2 := okF_drop y 1 1 o2'
    have lx := tlen_le x 1
    have ly := tlen_le y 1
    have ex : x = x.take (tlen x 1) ++ x.drop (tlen x 1) := (List.take_append_drop _ _).symm
    have ey : y = y.take (tlen y 1) ++ y.drop (tlen y 1) := (List.take_append_drop _ _).symm
    have e1 : l.drop (p + 1) = x.take (tlen x 1) ++ (x.drop (tlen x 1) ++ xr) := by rw [k3, ← List.append_assoc, ← ex]
    have e2 : l.drop (q + 1) = y.take (tlen y 1) ++ (y.drop (tlen y 1) ++ yr) := by rw [k6, ← List.append_assoc, ← ey]
    have e3 : l.drop (p + 1 + tlen x 1) = x.drop (tlen x 1) ++ xr := drop_split k3 lx
    have e4 : l.drop (q + 1 + tlen y 1) = y.drop (tlen y 1) ++ yr := drop_split k6 ly
    have z1 : pOK l (p + 1, q + 1) := ⟨_, _, _, _, e1, x1, e2, y1, by rw [List.length_take]; dsimp only; omega⟩
    have z2 : pOK l (p + 1 + tlen x 1, q + 1 + tlen y 1) := ⟨_, _, _, _, e3, x2, e4, y2, by rw [List.length_drop]; dsimp only; omega⟩
    have f1 : entL l (p + 1, q + 1) = tlen x 1 + tlen y 1 := by rw [entL]; dsimp only; rw [tx, ty]
    have f2 : entL l (p + 1 + tlen x 1, q + 1 + tlen y 1) = (x.length - tlen x 1) + (y.length - tlen y 1) := by rw [entL]; dsimp only; rw [e3, e4, okF_tlen _ xr 1 x2, okF_tlen _ yr 1 y2, List.length_drop, List.length_drop]
    rw [hk]
    have hm : (([(p + 1, q + 1), (p + 1 + tlen x 1, q + 1 + tlen y 1)] ++ T).map (entL l)).sum = x.length + y.length + (T.map (entL l)).sum := by
      rw [List.cons_append, List.singleton_append, List.map_cons, List.map_cons, List.sum_cons, List.sum_cons, f1, f2]
      omega
    refine ⟨⟨?_, fun z hz2 => ?_, by rw [hm]; omega⟩, by rw [hm]; omega⟩
    · rw [List.cons_append, List.singleton_append, List.flatMap_cons, List.flatMap_cons, pwz, pwz]
      dsimp only
      rw [show (2 : Nat) = 1 + 1 from rfl, pw_split 19 1 1 (p + 1) (q + 1) x xr y yr k3 o1' k6 o2' had] at h1
      rw [pw_fuel 20 19 1 _ _ _ _ _ _ e1 x1 e2 y1 (by rw [adq, List.length_take, List.length_take]; omega) (by rw [adq, List.length_take, List.length_take]; omega)]
      rw [pw_fuel 20 19 1 _ _ _ _ _ _ e3 x2 e4 y2 (by rw [adq, List.length_drop, List.length_drop]; omega) (by rw [adq, List.length_drop, List.length_drop]; omega)]
      rw [List.append_assoc] at h1
      exact h1
    · rw [List.cons_append, List.singleton_append, List.mem_cons, List.mem_cons] at hz2
      rcases hz2 with rfl | rfl | hz2
      · exact z1
      · exact z2
      · exact hT z hz2
