/-! Pairs: taken apart. -/
def paI (P : List (Nat × Nat)) (lf rt : List Int32) : Prop := (lf.length = 20 ∧ rt.length = 20 ∧ P.length ≤ 20) ∧ ∀ i, i < P.length → lf.getD i 0 = nI (P.getD i (0, 0)).1 ∧ rt.getD i 0 = nI (P.getD i (0, 0)).2
theorem getD_app1 {α : Type} {l r : List α} {i : Nat} {d : α} (h : i < l.length) : (l ++ r).getD i d = l.getD i d := by
  rw [List.getD_eq_getElem?_getD, List.getD_eq_getElem?_getD, List.getElem?_append_left h]
theorem getD_app2 {α : Type} {l : List α} {a d : α} : (l ++ [a]).getD l.length d = a := by
  rw [List.getD_eq_getElem?_getD, List.getElem?_append_right (Nat.le_refl _), Nat.sub_self]; rfl
theorem paI_push {P : List (Nat × Nat)} {lf rt : List Int32} (h : paI P lf rt) (hP : P.length < 20) (p q : Nat) : paI (P ++ [(p, q)]) (lf.set P.length (nI p)) (rt.set P.length (nI q)) := by
  obtain ⟨⟨h1, h2, h3⟩, h4⟩ := h
  refine ⟨⟨by rw [List.length_set]; exact h1, by rw [List.length_set]; exact h2, by rw [List.length_append, List.length_singleton]; omega⟩, fun i hi => ?_⟩
  rw [List.length_append, List.length_singleton] at hi
  by_cases e : P.length = i
  · subst e
    rw [getD_set_eq (by omega), getD_set_eq (by omega), getD_app2]
    exact ⟨rfl, rfl⟩
  · rw [getD_set_ne e, getD_set_ne e, getD_app1 (by omega)]
    exact h4 i (by omega)
theorem tlen_app {x r : List Int32} {a b : Nat} (h : okF x (a + b) = true) : tlen (x ++ r) a = tlen x a := by
  have h1 := okF_take x a b h
  have e : x = x.take (tlen x a) ++ x.drop (tlen x a) := (List.take_append_drop _ _).symm
  have e2 : x ++ r = x.take (tlen x a) ++ (x.drop (tlen x a) ++ r) := by rw [← List.append_assoc, ← e]
  rw [e2, okF_tlen _ _ _ h1, List.length_take]
  have := tlen_le x a
  omega
theorem tlen_pos {x : List Int32} {n : Nat} (h : okF x (n + 1) = true) : 0 < tlen x 1 := by
  cases x with
  | nil => cases h
  | cons c x => rw [tlen]; omega
theorem drop_split {l x r : List Int32} {p k : Nat} (h : l.drop p = x ++ r) (hk : k ≤ x.length) : l.drop (p + k) = x.drop k ++ r := by
  rw [← List.drop_drop, h, List.drop_append, show k - x.length = 0 by omega]
  rfl
theorem drop_head {l x r : List Int32} {p : Nat} {c : Int32} (h : l.drop p = (c :: x) ++ r) : p < l.length ∧ l.getD p 0 = c ∧ l.drop (p + 1) = x ++ r := by
  have hp : p < l.length := by
    have := congrArg List.length h
    rw [List.length_drop, List.cons_append, List.length_cons] at this
    omega
  rw [drop_cons hp, List.cons_append, List.cons.injEq] at h
  exact ⟨hp, h.1, h.2⟩
theorem pw_len {l : List Int32} : ∀ (f n p q : Nat) (x xr y yr : List Int32), l.drop p = x ++ xr → okF x n = true → l.drop q = y ++ yr → okF y n = true → 2 * (pw l f n p q).length ≤ x.length + y.length := by
  intro f
  induction f with
  | zero => intro n p q x xr y yr _ _ _ _; simp [pw]
  | succ f ih =>
    intro n p q x xr y yr h1 h2 h4 h5
    cases n with
    | zero => simp [pw]
    | succ n =>
      cases x with
      | nil => cases h2
      | cons c x =>
      cases y with
      | nil => cases h5
      | cons d y =>
      obtain ⟨k1, k2, k3⟩ := drop_head h1
      obtain ⟨k4, k5, k6⟩ := drop_head h4
      rw [pw, k2, k5, List.length_cons, List.length_cons]
      by_cases hcd : c = d ∧ fxI c = 0
      · rw [if_pos hcd]
        obtain ⟨rfl, -⟩ := hcd
        have := ih (n + arN c) (p + 1) (q + 1) x xr y yr k3 h2 k6 h5
        omega
      · rw [if_neg hcd, List.length_cons]
        have hxl : tlen (l.drop p) 1 = tlen (c :: x) 1 := by rw [h1]; exact tlen_app (b := n) (by rw [Nat.add_comm]; exact h2)
        have hyl : tlen (l.drop q) 1 = tlen (d :: y) 1 := by rw [h4]; exact tlen_app (b := n) (by rw [Nat.add_comm]; exact h5)
        have hxp := tlen_pos h2
        have hyp := tlen_pos h5
        have hxle := tlen_le (c :: x) 1
        have hyle := tlen_le (d :: y) 1
        rw [hxl, hyl]
        have := ih n (p + tlen (c :: x) 1) (q + tlen (d :: y) 1) ((c :: x).drop (tlen (c :: x) 1)) xr ((d :: y).drop (tlen (d :: y) 1)) yr (drop_split h1 hxle) (okF_drop _ 1 n (by rw [Nat.add_comm]; exact h2)) (drop_split h4 hyle) (okF_drop _ 1 n (by rw [Nat.add_comm]; exact h5))
        rw [List.length_drop, List.length_drop, List.length_cons, List.length_cons] at this
        rw [List.length_cons] at hxle hyle
        omega
section PA2
variable {sc : List Int32} {X : pX} {B : pB} {Q : pQ} {L S N D C : List Int32} {sd tt : Int32}
theorem t_takeApart_loop (hX : Cl sc X) (hB : 1 ≤ B.1) {l : List Int32} (hl : l.length ≤ 40) (hL : L.length = 40) (hLl : L.take l.length = l) (hm : mOK l N D C) {a0 a1 : Int32} {e : Nat} {Pf : List (Nat × Nat)} (hq : ∀ lf rt, paI Pf lf rt → Q none (PaW L S N D C sd tt lf rt (nI Pf.length))) :
    ∀ (f st : Nat), st + f = 20 → ∀ (n p q : Nat) (x xr y yr : List Int32), l.drop p = x ++ xr → okF x n = true → p + x.length = e → l.drop q = y ++ yr → okF y n = true → x.length + y.length ≤ 2 * f → ∀ (P : List (Nat × Nat)) (lf rt : List Int32) (l7 : Option Value), 2 * P.length + x.length + y.length ≤ 40 → P ++ pw l f n p q = Pf → paI P lf rt →
      X B 60 20 [some (.ref 0), some (.int a0), some (.int a1), some (.int (nI e)), some (.int (nI p)), some (.int (nI q)), some (.int (nI st)), l7] [] (PaW L S N D C sd tt lf rt (nI P.length)) Q := by
  have hgL : ∀ p, p < l.length → L.getD p 0 = l.getD p 0 := fun p hp => by rw [← getD_take (n := l.length) hp, hLl]
  intro f
  induction f with
  | zero =>
    intro st hst n p q x xr y yr h1 h2 h3 h4 h5 h6 P lf rt l7 h7 h8 h9
    repeat refine hX ?_
    refine And.intro (fun _ => ?_) (fun h => absurd ((nle (a := 20) (by omega) (by omega)).mpr (by omega)) h)
    repeat refine hX ?_
    rw [pw, List.append_nil] at h8
    subst h8
    exact hq lf rt h9
  | succ f ih =>
    intro st hst n p q x xr y yr h1 h2 h3 h4 h5 h6 P lf rt l7 h7 h8 h9
    have hple : p ≤ l.length ∨ x.length = 0 := by
      have := congrArg List.length h1
      rw [List.length_drop, List.length_append] at this
      omega
    repeat refine hX ?_
    refine And.intro (fun h => absurd ((nle (a := 20) (by omega) (by omega)).mp h) (by omega)) (fun _ => ?_)
    repeat refine hX ?_
    cases n with
    | zero =>
      have hx : x = [] := by
        cases x with
        | nil => rfl
        | cons c x => cases h2
      subst hx
      rw [pw, List.append_nil] at h8
      subst h8
      rw [show e = p by simpa using h3.symm]
      refine And.intro (fun _ => ?_) (fun h => absurd (Int32.le_refl _) h)
      repeat refine hX ?_
      exact hq lf rt h9
    | succ n =>
      cases x with
      | nil => cases h2
      | cons c x =>
      cases y with
      | nil => cases h5
      | cons d y =>
      obtain ⟨k1, k2, k3⟩ := drop_head h1
      obtain ⟨k4, k5, k6⟩ := drop_head h4
      rw [List.length_cons] at h3 h6 h7
      rw [List.length_cons] at h6 h7
      have he : e ≤ 40 := by
        have := congrArg List.length h1
        rw [List.length_drop, List.length_append, List.length_cons] at this
        omega
      refine And.intro (fun h => absurd ((nle (by omega) (by omega)).mp h) (by omega)) (fun _ => ?_)
      repeat refine hX ?_
      refine And.intro trivial (cP [1, 2, 3, 4, 5, 6] [.ref 0, .int (nI p)] (EqW L S N D C sd tt) (some (.int (L.getD p 0))) [.int (L.getD p 0)] hB rfl rfl rfl rfl (fun Q' hQ' => t_letterAt hX (by omega) hL hQ') ?_)
      rw [hgL p k1, k2]
      repeat refine hX ?_
      refine And.intro trivial (cP [1, 2, 3, 4, 5, 6] [.ref 0, .int (nI q)] (EqW L S N D C sd tt) (some (.int (L.getD q 0))) [.int (L.getD q 0), .int c] hB rfl rfl rfl rfl (fun Q' hQ' => t_letterAt hX (by omega) hL hQ') ?_)
      rw [hgL q k4, k5]
      rw [pw, k2, k5] at h8
      have rec2 : ¬ (c = d ∧ fxI c = 0) → ∀ l7 : Option Value, X B 60 75 [some (.ref 0), some (.int a0), some (.int a1), some (.int (nI e)), some (.int (nI p)), some (.int (nI q)), some (.int (nI st)), l7] [] (PaW L S N D C sd tt lf rt (nI P.length)) Q := by
        intro hcd l7
        rw [if_neg hcd] at h8
        have hP20 : P.length < 20 := by omega
        have hxl : tlen (l.drop p) 1 = tlen (c :: x) 1 := by rw [h1]; exact tlen_app (b := n) (by rw [Nat.add_comm]; exact h2)
        have hyl : tlen (l.drop q) 1 = tlen (d :: y) 1 := by rw [h4]; exact tlen_app (b := n) (by rw [Nat.add_comm]; exact h5)
        have hxp := tlen_pos h2
        have hyp := tlen_pos h5
        have hxle := tlen_le (c :: x) 1
        have hyle := tlen_le (d :: y) 1
        have lx : ((c :: x).drop (tlen (c :: x) 1)).length = x.length + 1 - tlen (c :: x) 1 := by rw [List.length_drop, List.length_cons]
        have ly : ((d :: y).drop (tlen (d :: y) 1)).length = y.length + 1 - tlen (d :: y) 1 := by rw [List.length_drop, List.length_cons]
        have hxle2 : tlen (c :: x) 1 ≤ x.length + 1 := by simpa using hxle
        have hyle2 : tlen (d :: y) 1 ≤ y.length + 1 := by simpa using hyle
        rw [hxl, hyl] at h8
        repeat refine hX ?_
        refine And.intro trivial (cD [0, 1, 2, 3, 4, 5, 6, 7, 8] [.ref 0, .int (nI p), .int (nI q)] (PaW L S N D C sd tt lf rt (nI P.length)) none (PaW L S N D C sd tt (lf.set P.length (nI p)) (rt.set P.length (nI q)) (nI (P.length + 1))) (PaW L S N D C sd tt (lf.set P.length (nI p)) (rt.set P.length (nI q)) (nI (P.length + 1))) [] hB rfl rfl rfl rfl rfl rfl (fun Q' hQ' => t_keep hX hP20 h9.1.1 h9.1.2.1 hQ') ?_)
        repeat refine hX ?_
        refine And.intro trivial (cP [1, 2, 3, 4, 5, 6] [.ref 0, .int (nI p)] (EqW L S N D C sd tt) (some (.int (N.getD p 0))) [.int (N.getD p 0), .int (nI p)] hB rfl rfl rfl rfl (fun Q' hQ' => t_nodesAt hX (by omega) hm.1.1 hQ') ?_)
        rw [(hm.2 p k1).1, hxl]
        repeat refine hX ?_
        refine And.intro trivial (cP [1, 2, 3, 4, 5, 6] [.ref 0, .int (nI q)] (EqW L S N D C sd tt) (some (.int (N.getD q 0))) [.int (N.getD q 0), .int (nI q)] hB rfl rfl rfl rfl (fun Q' hQ' => t_nodesAt hX (by omega) hm.1.1 hQ') ?_)
        rw [(hm.2 q k4).1, hyl]
        iterate 4 refine hX ?_
        rw [nadd, nadd, show nI st + 1 = nI (st + 1) from (nI_succ st).symm]
        have := ih (st + 1) (by omega) n (p + tlen (c :: x) 1) (q + tlen (d :: y) 1) ((c :: x).drop (tlen (c :: x) 1)) xr ((d :: y).drop (tlen (d :: y) 1)) yr (drop_split h1 hxle) (okF_drop _ 1 n (by rw [Nat.add_comm]; exact h2)) (by rw [lx]; omega) (drop_split h4 hyle) (okF_drop _ 1 n (by rw [Nat.add_comm]; exact h5)) (by rw [lx, ly]; omega) (P ++ [(p, q)]) (lf.set P.length (nI p)) (rt.set P.length (nI q)) l7 (by rw [lx, ly, List.length_append, List.length_singleton]; omega) (by rw [List.append_assoc]; exact h8) (paI_push h9 hP20 p q)
        rw [List.length_append, List.length_singleton] at this
        exact this
      refine hX (And.intro (fun hcd => ?_) (fun hcd => rec2 (fun z => hcd z.1) _))
      repeat refine hX ?_
      refine (cP [] [.int c] [] (some (.int (fxI c))) [.int (fxI c)] hB rfl rfl rfl rfl (fun Q' hQ' => t_isFlex hX hQ') ?_)
      rcases fxI_or c with hf | hf
      · rw [hf]
        refine hX (And.intro (fun _ => ?_) (fun h => absurd rfl h))
        rw [if_pos ⟨hcd, hf⟩] at h8
        subst hcd
        iterate 5 refine hX ?_
        rw [show nI p + 1 = nI (p + 1) from (nI_succ p).symm, show nI q + 1 = nI (q + 1) from (nI_succ q).symm, show nI st + 1 = nI (st + 1) from (nI_succ st).symm]
        exact ih (st + 1) (by omega) (n + arN c) (p + 1) (q + 1) x xr y yr k3 h2 (by omega) k6 h5 (by omega) P lf rt _ (by omega) h8 h9
      · rw [hf]
        refine hX (And.intro (fun h => absurd h (by decide)) (fun _ => rec2 (fun z => by rw [z.2] at hf; cases hf) _))
theorem t_takeApart2 (hX : Cl sc X) (hB : 1 ≤ B.1) {l : List Int32} (hl : l.length ≤ 40) (hL : L.length = 40) (hLl : L.take l.length = l) (hm : mOK l N D C) {p q : Nat} {x xr y yr : List Int32} (h1 : l.drop p = x ++ xr) (h2 : okF x 1 = true) (h4 : l.drop q = y ++ yr) (h5 : okF y 1 = true) (h6 : x.length + y.length ≤ 40) {P : List (Nat × Nat)} {lf rt : List Int32} (h7 : 2 * P.length + x.length + y.length ≤ 40) (h9 : paI P lf rt) (hq : ∀ lf rt, paI (P ++ pw l 20 1 p q) lf rt → Q none (PaW L S N D C sd tt lf rt (nI (P ++ pw l 20 1 p q).length))) : X B 60 0 [some (.ref 0), some (.int (nI p)), some (.int (nI q)), none, none, none, none, none] [] (PaW L S N D C sd tt lf rt (nI P.length)) Q := by
  have hp : p < l.length := by
    have := congrArg List.length h1
    have := okF_pos h2 (by omega)
    rw [List.length_drop, List.length_append] at *
    omega
  repeat refine hX ?_
  refine And.intro trivial (cP [1, 2, 3, 4, 5, 6] [.ref 0, .int (nI p)] (EqW L S N D C sd tt) (some (.int (N.getD p 0))) [.int (N.getD p 0), .int (nI p)] hB rfl rfl rfl rfl (fun Q' hQ' => t_nodesAt hX (by omega) hm.1.1 hQ') ?_)
  rw [(hm.2 p hp).1, h1, okF_tlen x xr 1 h2]
  iterate 8 refine hX ?_
  rw [nadd]
  exact t_takeApart_loop hX hB hl hL hLl hm hq 20 0 rfl 1 p q x xr y yr h1 h2 rfl h4 h5 h6 P lf rt none h7 rfl h9
/-- all PAIRS of the equations, from the i-th on: their sides begin at a -/
def prs (l : List Int32) : List (List Int32) → Nat → List (Nat × Nat)
  | [], _ => []
  | [_], _ => []
  | u :: v :: E, a => pw l 20 1 a (a + u.length) ++ prs l E (a + u.length + v.length)
theorem t_takeApart_all (hX : Cl sc X) (hB : 3 ≤ B.1) {E : List (List Int32)} (hE : EqInv E L S) (hm : mOK E.flatten N D C) (hev : E.length % 2 = 0) (hq : ∀ lf rt, paI (prs E.flatten E 0) lf rt → Q none (PaW L S N D C (nI E.length) tt lf rt (nI (prs E.flatten E 0).length))) :
    ∀ (m i : Nat) (A Z : List (List Int32)), A ++ Z = E → A.length = 2 * i → Z.length = 2 * m → ∀ (P : List (Nat × Nat)) (lf rt : List Int32), P ++ prs E.flatten Z A.flatten.length = prs E.flatten E 0 → 2 * P.length + Z.flatten.length ≤ 40 → paI P lf rt → X B 59 7 [some (.ref 0), some (.int (nI i))] [] (PaW L S N D C (nI E.length) tt lf rt (nI P.length)) Q := by
  obtain ⟨⟨g1, g2, g3, g4⟩, g5, g6, g7⟩ := id hE
  intro m
  induction m with
  | zero =>
    intro i A Z h1 h2 h3 P lf rt h4 h5 h6
    have hZ : Z = [] := List.eq_nil_of_length_eq_zero (by omega)
    subst hZ
    rw [List.append_nil] at h1
    subst h1
    replace h4 : P ++ [] = prs A.flatten A 0 := h4
    rw [List.append_nil] at h4
    subst h4
    repeat refine hX ?_
    refine And.intro trivial (cP [1, 2, 3, 4, 5, 6] [.ref 0] (EqW L S N D C (nI A.length) tt) (some (.int (nI (A.length / 2)))) [.int (nI (A.length / 2)), .int (nI i)] (by omega) rfl rfl rfl rfl (fun Q' hQ' => t_count hX (by omega) hQ') ?_)
    refine hX (And.intro (fun _ => ?_) (fun h => absurd ((nle (by omega) (by omega)).mpr (by omega)) h))
    repeat refine hX ?_
    exact hq lf rt h6
  | succ m ih =>
    intro i A Z h1 h2 h3 P lf rt h4 h5 h6
    match Z, h3 with
    | u :: v :: Z, h3 =>
    have hlen : E.length = A.length + 2 + Z.length := by rw [← h1]; simp; omega
    have p0 : pre E (2 * i) = A.flatten.length := by rw [← h1, ← h2]; have := pre_right (A := A) (W := u :: v :: Z) 0; simpa [pre] using this
    have p1 : pre E (2 * i + 1) = A.flatten.length + u.length := by rw [← h1, ← h2, pre_right]; simp [pre]
    have ef : E.flatten = A.flatten ++ (u ++ (v ++ Z.flatten)) := by rw [← h1]; simp
    have hu := g7 u (by rw [← h1]; simp)
    have hv := g7 v (by rw [← h1]; simp)
    have fl : E.flatten.length = A.flatten.length + u.length + v.length + Z.flatten.length := by rw [ef, List.length_append, List.length_append, List.length_append]; omega
    have fz : (u :: v :: Z).flatten.length = u.length + v.length + Z.flatten.length := by rw [List.flatten_cons, List.flatten_cons, List.length_append, List.length_append]; omega
    rw [fz] at h5
    rw [prs] at h4
    rw [List.length_cons, List.length_cons] at h3
    repeat refine hX ?_
    refine And.intro trivial (cP [1, 2, 3, 4, 5, 6] [.ref 0] (EqW L S N D C (nI E.length) tt) (some (.int (nI (E.length / 2)))) [.int (nI (E.length / 2)), .int (nI i)] (by omega) rfl rfl rfl rfl (fun Q' hQ' => t_count hX (by omega) hQ') ?_)
    refine hX (And.intro (fun h => absurd ((nle (by omega) (by omega)).mp h) (by omega)) (fun _ => ?_))
    repeat refine hX ?_
    refine And.intro trivial (cP [1, 2, 3, 4, 5, 6] [.ref 0, .int (nI i), .int 0] (EqW L S N D C (nI E.length) tt) (some (.int (S.getD (2 * i + 0) 0))) [.int (S.getD (2 * i + 0) 0), .ref 0] (by omega) rfl rfl rfl rfl (fun Q' hQ' => t_start (j := 0) hX (by show 2 ≤ B.1 - 1; omega) g3 (by omega) (by omega) g2 hQ') ?_)
    rw [g6 (2 * i + 0) (by omega), Nat.add_zero, p0]
    repeat refine hX ?_
    refine And.intro trivial (cP [1, 2, 3, 4, 5, 6] [.ref 0, .int (nI i), .int 1] (EqW L S N D C (nI E.length) tt) (some (.int (S.getD (2 * i + 1) 0))) [.int (S.getD (2 * i + 1) 0), .int (nI A.flatten.length), .ref 0] (by omega) rfl rfl rfl rfl (fun Q' hQ' => t_start (j := 1) hX (by show 2 ≤ B.1 - 1; omega) g3 (by omega) (by omega) g2 hQ') ?_)
    rw [g6 (2 * i + 1) (by omega), p1]
    refine hX (And.intro trivial (cM [0, 1, 2, 3, 4, 5, 6, 7, 8] [.ref 0, .int (nI A.flatten.length), .int (nI (A.flatten.length + u.length))] (PaW L S N D C (nI E.length) tt lf rt (nI P.length)) (fun w : List Int32 × List Int32 => paI (P ++ pw E.flatten 20 1 A.flatten.length (A.flatten.length + u.length)) w.1 w.2) (fun _ => none) (fun w => PaW L S N D C (nI E.length) tt w.1 w.2 (nI (P ++ pw E.flatten 20 1 A.flatten.length (A.flatten.length + u.length)).length)) (fun w => PaW L S N D C (nI E.length) tt w.1 w.2 (nI (P ++ pw E.flatten 20 1 A.flatten.length (A.flatten.length + u.length)).length)) (fun _ => []) (by omega) rfl rfl rfl (fun _ => rfl) (fun _ => rfl) (fun _ => rfl) (fun Q' hQ' => t_takeApart2 (x := u) (xr := v ++ Z.flatten) (y := v) (yr := Z.flatten) hX (by show 1 ≤ B.1 - 1; omega) g4 g1 g5 hm (by rw [ef, List.drop_left]) hu (by rw [ef, ← List.append_assoc, List.drop_left' (by rw [List.length_append])]) hv (by omega) (by omega) h6 (fun lf rt hp => hQ' (lf, rt) hp)) (fun w hw => ?_)))
    have hpl : 2 * (pw E.flatten 20 1 A.flatten.length (A.flatten.length + u.length)).length ≤ u.length + v.length := pw_len 20 1 _ _ u (v ++ Z.flatten) v Z.flatten (by rw [ef, List.drop_left]) hu (by rw [ef, ← List.append_assoc, List.drop_left' (by rw [List.length_append])]) hv
    iterate 2 refine hX ?_
    rw [show nI i + 1 = nI (i + 1) from (nI_succ i).symm]
    exact ih (i + 1) (A ++ [u, v]) Z (by rw [← h1]; simp) (by simp; omega) (by omega) _ w.1 w.2 (by rw [List.append_assoc, ← h4]; simp [Nat.add_assoc]) (by rw [List.length_append]; omega) hw
theorem t_takeApart (hX : Cl sc X) (hB : 3 ≤ B.1) {E : List (List Int32)} (hE : EqInv E L S) (hm : mOK E.flatten N D C) (hev : E.length % 2 = 0) {lf rt : List Int32} {cn : Int32} (hlf : lf.length = 20 ∧ rt.length = 20) (hq : ∀ lf rt, paI (prs E.flatten E 0) lf rt → Q none (PaW L S N D C (nI E.length) tt lf rt (nI (prs E.flatten E 0).length))) : X B 59 0 [some (.ref 0), none] [] (PaW L S N D C (nI E.length) tt lf rt cn) Q := by
  iterate 5 refine hX ?_
  exact t_takeApart_all hX hB hE hm hev hq (E.length / 2) 0 [] E rfl rfl (by omega) [] lf rt rfl (by have := hE.1.2.2.2; simpa using this) ⟨⟨hlf.1, hlf.2, by simp⟩, fun i hi => by simp at hi⟩
end PA2
