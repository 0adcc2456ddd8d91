/-! THE TEXT: the class's methods. -/
def TxR (σ : pS) (pl : List Int32) (dp aw : Int32) (L S : List Int32) (sd tt : Int32) : Prop := match σ with
  | (E, cur, s, a) => (dp = nI s.length ∧ aw = nI a ∧ sd = nI E.length ∧ tt = nI (E.flatten.length + cur.length)) ∧ stR s pl ∧ L.length = 40 ∧ S.length = 9 ∧ L.take (E.flatten.length + cur.length) = E.flatten ++ cur ∧ ∀ k, k ≤ E.length → S.getD k 0 = nI (pre E k)
/-- what the rows keep, whatever is read -/
def TxK (pl L S : List Int32) : Prop := pl.length = 40 ∧ L.length = 40 ∧ S.length = 9 ∧ S.getD 0 0 = 0
theorem TxR.k {σ : pS} {pl L S : List Int32} {dp aw sd tt : Int32} (h : TxR σ pl dp aw L S sd tt) : TxK pl L S := by
  obtain ⟨E, cur, s, a⟩ := σ
  obtain ⟨-, h1, h2, h3, -, h4⟩ := h
  exact ⟨h1.1, h2, h3, by rw [h4 0 (by omega)]; rfl⟩
theorem take_set {α : Type} {l : List α} {n : Nat} {c : α} (h : n < l.length) : (l.set n c).take (n + 1) = l.take n ++ [c] := by
  rw [List.take_set, List.take_add_one, List.getElem?_eq_getElem h, List.set_append_right _ _ (by rw [List.length_take]; omega)]
  rw [List.length_take, Nat.min_eq_left (by omega), Nat.sub_self]
  rfl
section TX
variable {sc : List Int32} {X : pX} {B : pB} {Q : pQ} {by' pl L S N D C : List Int32} {ln dp aw sd tt : Int32}
abbrev TxU : Type := List Int32 × Int32 × Int32 × List Int32 × List Int32 × Int32 × Int32
abbrev TxO (by' : List Int32) (ln : Int32) (N D C : List Int32) (u : TxU) : pH := TxW by' u.1 ln u.2.1 u.2.2.1 u.2.2.2.1 u.2.2.2.2.1 N D C u.2.2.2.2.2.1 u.2.2.2.2.2.2
/-- the outcome of a byte -/
def TxP (o : Option pS) (w : Int32 × TxU) : Prop := match o with
  | none => w.1 = 0 ∧ TxK w.2.1 w.2.2.2.2.1 w.2.2.2.2.2.1
  | some σ => w.1 = 1 ∧ TxR σ w.2.1 w.2.2.1 w.2.2.2.1 w.2.2.2.2.1 w.2.2.2.2.2.1 w.2.2.2.2.2.2.1 w.2.2.2.2.2.2.2
theorem t_acceptsLetter (hX : Cl sc X) (hB : 2 ≤ B.1) {E : List (List Int32)} {cur : List Int32} {s : List Nat} {a : Nat} {c : Int32} (ha : a ≤ 1) (hI : pInv (E, cur, s, a)) (hR : TxR (E, cur, s, a) pl dp aw L S sd tt) (hq : ∀ w : Int32 × TxU, TxP (pst (E, cur, s, a) c) w → Q (some (.int w.1)) (TxO by' ln N D C w.2)) : X B 78 0 [some (.ref 0), some (.int c), some (.ref 3), none] [] (TxW by' pl ln dp aw L S N D C sd tt) Q := by
  obtain ⟨⟨i1, i2, i3, i4⟩, i5, i6, i7, i8, i9, i10⟩ := id hI
  obtain ⟨⟨rfl, rfl, rfl, rfl⟩, r1, r2, r3, r4, r5⟩ := id hR
  have hk := hR.k
  simp only [pst, if_pos ha] at hq
  repeat refine hX ?_
  refine (cP [] [.int c] [] (some (.int (kdI c))) [.int (kdI c)] (by omega) rfl rfl rfl rfl (fun Q' hQ' => t_kind hX (by show 1 ≤ B.1 - 1; omega) hQ') ?_)
  refine hX (hX (And.intro (fun h1 => ?_) (fun h1 => ?_)))
  · rw [if_pos (Or.inl h1)] at hq
    repeat refine hX ?_
    exact And.intro (Or.inl rfl) (hq (0, pl, _, _, L, S, _, _) ⟨rfl, hk⟩)
  · repeat refine hX ?_
    refine And.intro trivial (cM [3, 4, 5, 6, 7, 8] [.ref 0, .int c] (EqW L S N D C (nI E.length) (nI (E.flatten.length + cur.length))) (fun b : Bool => if b then E.length < 8 ∧ E.flatten.length + cur.length < 40 else 8 ≤ E.length ∨ 40 ≤ E.flatten.length + cur.length) (fun b => if b then some (.int 1) else some (.int 0)) (fun b => if b then EqW (L.set (E.flatten.length + cur.length) c) S N D C (nI E.length) (nI (E.flatten.length + cur.length + 1)) else EqW L S N D C (nI E.length) (nI (E.flatten.length + cur.length))) (fun b => if b then TxW by' pl ln (nI s.length) (nI a) (L.set (E.flatten.length + cur.length) c) S N D C (nI E.length) (nI (E.flatten.length + cur.length + 1)) else TxW by' pl ln (nI s.length) (nI a) L S N D C (nI E.length) (nI (E.flatten.length + cur.length))) (fun b => if b then [.int 1] else [.int 0]) (by omega) rfl rfl rfl (fun b => by cases b <;> rfl) (fun b => by cases b <;> rfl) (fun b => by cases b <;> rfl) (fun Q' hQ' => t_append hX (by omega) i2 r2 (fun h => hQ' false h) (fun h1 h2 => hQ' true ⟨h1, h2⟩)) (fun b hb => ?_))
    cases b with
    | false =>
      have hb' : 8 ≤ E.length ∨ 40 ≤ E.flatten.length + cur.length := hb
      rw [if_pos (Or.inr hb')] at hq
      show X B 78 13 _ [.int 0] (TxW by' pl ln (nI s.length) (nI a) L S N D C (nI E.length) (nI (E.flatten.length + cur.length))) Q
      refine hX (And.intro (fun _ => ?_) (fun h => absurd rfl h))
      repeat refine hX ?_
      exact And.intro (Or.inl rfl) (hq (0, pl, _, _, L, S, _, _) ⟨rfl, hk⟩)
    | true =>
      have hb' : E.length < 8 ∧ E.flatten.length + cur.length < 40 := hb
      rw [if_neg (fun z => by rcases z with z | z | z; exact h1 z; omega; omega)] at hq
      show X B 78 13 _ [.int 1] (TxW by' pl ln (nI s.length) (nI a) (L.set (E.flatten.length + cur.length) c) S N D C (nI E.length) (nI (E.flatten.length + cur.length + 1))) Q
      refine hX (And.intro (fun h => absurd h (by decide)) (fun _ => ?_))
      repeat refine hX ?_
      refine (cP [] [.int c] [] (some (.int (arI c))) [.int (arI c)] (by omega) rfl rfl rfl rfl (fun Q' hQ' => t_parts hX hQ') ?_)
      rw [arI_eq]
      have hL2 : (L.set (E.flatten.length + cur.length) c).length = 40 := by rw [List.length_set]; exact r2
      have hT2 : (L.set (E.flatten.length + cur.length) c).take (E.flatten.length + (cur ++ [c]).length) = E.flatten ++ (cur ++ [c]) := by
        rw [List.length_append, List.length_singleton, ← Nat.add_assoc, take_set (by omega), r4, List.append_assoc]
      have htt : nI (E.flatten.length + cur.length + 1) = nI (E.flatten.length + (cur ++ [c]).length) := by rw [List.length_append, List.length_singleton, Nat.add_assoc]
      rw [htt]
      by_cases h0 : arN c = 0
      · rw [if_pos h0] at hq
        rw [h0]
        repeat refine hX ?_
        refine And.intro (fun _ => ?_) (fun h => absurd (by decide) h)
        repeat refine hX ?_
        exact And.intro (Or.inr rfl) (hq (1, pl, _, _, _, S, _, _) ⟨rfl, ⟨rfl, rfl, rfl, rfl⟩, r1, hL2, r3, hT2, r5⟩)
      · rw [if_neg h0] at hq
        have h12 := arN_12 h0
        repeat refine hX ?_
        refine And.intro (fun h => absurd ((nle (b := 0) (by omega) (by omega)).mp h) (by omega)) (fun _ => ?_)
        repeat refine hX ?_
        rw [r1.1]
        refine And.intro (fun h => absurd ((nle (by omega) (by omega)).mp h) (by omega)) (fun _ => ?_)
        repeat refine hX ?_
        refine And.intro (vp_in_nI (by rw [r1.1]; omega) (by rw [r1.1]; omega)) ?_
        rw [nI_clamp (by omega)]
        repeat refine hX ?_
        refine And.intro (Or.inr rfl) (hq (1, pl.set s.length (nI (arN c)), _, _, _, S, _, _) ⟨rfl, ⟨?_, rfl, rfl, rfl⟩, stR_push r1 (by omega), hL2, r3, hT2, r5⟩)
        rw [List.length_cons, nI_succ]
theorem t_acceptsInside (hX : Cl sc X) {E : List (List Int32)} {cur : List Int32} {s : List Nat} {c : Int32} (hs : 0 < s.length) (hI : pInv (E, cur, s, 3)) (hR : TxR (E, cur, s, 3) pl dp aw L S sd tt) (hq : ∀ w : Int32 × TxU, TxP (pst (E, cur, s, 3) c) w → Q (some (.int w.1)) (TxO by' ln N D C w.2)) : X B 79 0 [some (.ref 0), some (.int c), none] [] (TxW by' pl ln dp aw L S N D C sd tt) Q := by
  obtain ⟨⟨i1, i2, i3, i4⟩, i5, i6, i7, i8, i9, i10⟩ := id hI
  obtain ⟨⟨rfl, rfl, rfl, rfl⟩, r1, r2, r3, r4, r5⟩ := id hR
  have hk := hR.k
  cases s with
  | nil => simp at hs
  | cons p s =>
  obtain ⟨t1, t2, t3⟩ := stR_top r1
  have hp := i6 p List.mem_cons_self
  rw [pst, if_neg (by omega), if_neg (by omega)] at hq
  repeat refine hX ?_
  rw [List.length_cons, nI_pred]
  refine And.intro (fun h => absurd h (nneg (by omega))) (fun _ => ?_)
  repeat refine hX ?_
  rw [r1.1]
  refine And.intro (fun _ => ?_) (fun h => absurd ((nlt (by omega) (by omega)).mpr t3) h)
  repeat refine hX ?_
  refine And.intro (vp_in_nI (by rw [r1.1]; exact t3) (by rw [r1.1]; omega)) ?_
  rw [nI_clamp (by omega), t1]
  repeat refine hX ?_
  by_cases hp1 : 1 < p
  · rw [if_pos hp1] at hq
    refine And.intro (fun h => absurd ((nle (b := 1) (by omega) (by omega)).mp h) (by omega)) (fun _ => ?_)
    repeat refine hX ?_
    refine And.intro (vp_in_nI (by rw [r1.1]; exact t3) (by rw [r1.1]; omega)) ?_
    rw [nI_clamp (by omega), t1]
    repeat refine hX ?_
    refine And.intro (vp_in_nI (by rw [r1.1]; exact t3) (by rw [r1.1]; omega)) ?_
    rw [nI_clamp (by omega), show nI p - 1 = nI (p - 1) from nsub (b := 1) (by omega)]
    have hst : stR ((p - 1) :: s) (pl.set s.length (nI (p - 1))) := stR_push t2 t3
    repeat refine hX ?_
    refine And.intro (fun h => ?_) (fun h => ?_)
    · rw [if_pos h] at hq
      repeat refine hX ?_
      exact And.intro (Or.inr rfl) (hq (1, _, _, _, L, S, _, _) ⟨rfl, ⟨rfl, rfl, rfl, rfl⟩, hst, r2, r3, r4, r5⟩)
    · rw [if_neg h] at hq
      repeat refine hX ?_
      exact And.intro (Or.inl rfl) (hq (0, _, _, _, L, S, _, _) ⟨rfl, hst.1, hk.2⟩)
  · rw [if_neg hp1] at hq
    refine And.intro (fun _ => ?_) (fun h => absurd ((nle (b := 1) (by omega) (by omega)).mpr (by omega)) h)
    repeat refine hX ?_
    refine And.intro (fun h => ?_) (fun h => ?_)
    · rw [if_pos h] at hq
      repeat refine hX ?_
      exact And.intro (Or.inr rfl) (hq (1, pl, _, _, L, S, _, _) ⟨rfl, ⟨rfl, rfl, rfl, rfl⟩, t2, r2, r3, r4, r5⟩)
    · rw [if_neg h] at hq
      repeat refine hX ?_
      exact And.intro (Or.inl rfl) (hq (0, pl, _, _, L, S, _, _) ⟨rfl, hk⟩)
theorem t_acceptsOutside (hX : Cl sc X) (hB : 1 ≤ B.1) {E : List (List Int32)} {cur : List Int32} {c : Int32} (hI : pInv (E, cur, [], 3)) (hR : TxR (E, cur, [], 3) pl dp aw L S sd tt) (hq : ∀ w : Int32 × TxU, TxP (pst (E, cur, [], 3) c) w → Q (some (.int w.1)) (TxO by' ln N D C w.2)) : X B 80 0 [some (.ref 0), some (.int c), some (.ref 3), none] [] (TxW by' pl ln dp aw L S N D C sd tt) Q := by
  obtain ⟨⟨i1, i2, i3, i4⟩, i5, i6, i7, i8, i9, i10⟩ := id hI
  obtain ⟨⟨rfl, rfl, rfl, rfl⟩, r1, r2, r3, r4, r5⟩ := id hR
  have hk := hR.k
  have hE8 := i8 (i9 (by omega))
  rw [pst, if_neg (by omega), if_neg (by omega)] at hq
  have hS2 : (S.set (E.length + 1) (nI (E.flatten.length + cur.length))).length = 9 := by rw [List.length_set]; exact r3
  have hS3 : ∀ k, k ≤ (E ++ [cur]).length → (S.set (E.length + 1) (nI (E.flatten.length + cur.length))).getD k 0 = nI (pre (E ++ [cur]) k) := by
    intro k hk
    rw [List.length_append, List.length_singleton] at hk
    by_cases e : E.length + 1 = k
    · subst e
      rw [getD_set_eq (by omega), pre_right]
      simp [pre]
    · rw [getD_set_ne e, r5 k (by omega), pre_left (by omega)]
  have hk2 : TxK pl L (S.set (E.length + 1) (nI (E.flatten.length + cur.length))) := ⟨hk.1, hk.2.1, hS2, by rw [getD_set_ne (by omega)]; exact hk.2.2.2⟩
  have hT3 : L.take ((E ++ [cur]).flatten.length + ([] : List Int32).length) = (E ++ [cur]).flatten ++ [] := by
    rw [List.flatten_append, List.length_append]
    simp only [List.flatten_cons, List.flatten_nil, List.append_nil, List.length_nil, Nat.add_zero]
    exact r4
  have htt : nI (E.flatten.length + cur.length) = nI ((E ++ [cur]).flatten.length + ([] : List Int32).length) := by
    rw [List.flatten_append, List.length_append]
    simp only [List.flatten_cons, List.flatten_nil, List.append_nil, List.length_nil, Nat.add_zero]
  have hsd : nI (E.length + 1) = nI (E ++ [cur]).length := by rw [List.length_append, List.length_singleton]
  repeat refine hX ?_
  refine And.intro trivial (cP [3, 4, 5, 6, 7, 8] [.ref 0] (EqW L S N D C (nI E.length) (nI (E.flatten.length + cur.length))) (some (.int (if E.length % 2 = 0 then 1 else 0))) [.int (if E.length % 2 = 0 then 1 else 0)] hB rfl rfl rfl rfl (fun Q' hQ' => t_awaitsLeft hX (by omega) hQ') ?_)
  have tail : ∀ b : Int32, X B 80 9 [some (.ref 0), some (.int c), some (.ref 3), some (.int b)] [] (TxW by' pl ln (nI ([] : List Nat).length) (nI 3) L (S.set (E.length + 1) (nI (E.flatten.length + cur.length))) N D C (nI (E.length + 1)) (nI (E.flatten.length + cur.length))) Q → X B 80 4 [some (.ref 0), some (.int c), some (.ref 3), none] [.int b] (TxW by' pl ln (nI ([] : List Nat).length) (nI 3) L S N D C (nI E.length) (nI (E.flatten.length + cur.length))) Q := by
    intro b h
    repeat refine hX ?_
    exact And.intro trivial (cD [3, 4, 5, 6, 7, 8] [.ref 0] (EqW L S N D C (nI E.length) (nI (E.flatten.length + cur.length))) none (EqW L (S.set (E.length + 1) (nI (E.flatten.length + cur.length))) N D C (nI (E.length + 1)) (nI (E.flatten.length + cur.length))) (TxW by' pl ln (nI ([] : List Nat).length) (nI 3) L (S.set (E.length + 1) (nI (E.flatten.length + cur.length))) N D C (nI (E.length + 1)) (nI (E.flatten.length + cur.length))) [] hB rfl rfl rfl rfl rfl rfl (fun Q' hQ' => t_endSide hX hE8 r3 hQ') h)
  by_cases hpar : E.length % 2 = 0
  · rw [if_pos hpar] at hq ⊢
    refine tail 1 ?_
    repeat refine hX ?_
    refine And.intro (fun h => absurd h (by decide)) (fun _ => ?_)
    repeat refine hX ?_
    refine And.intro (fun h => absurd h (by decide)) (fun _ => ?_)
    repeat refine hX ?_
    refine And.intro (fun h => ?_) (fun h => ?_)
    · rw [if_pos h] at hq
      repeat refine hX ?_
      exact And.intro (Or.inr rfl) (hq (1, pl, _, _, L, _, _, _) ⟨rfl, ⟨rfl, rfl, hsd, htt⟩, r1, r2, hS2, hT3, hS3⟩)
    · rw [if_neg h] at hq
      repeat refine hX ?_
      exact And.intro (Or.inl rfl) (hq (0, pl, _, _, L, _, _, _) ⟨rfl, hk2⟩)
  · rw [if_neg hpar] at hq ⊢
    refine tail 0 ?_
    repeat refine hX ?_
    refine And.intro (fun _ => ?_) (fun h => absurd rfl h)
    repeat refine hX ?_
    refine And.intro (fun _ => ?_) (fun h => absurd rfl h)
    repeat refine hX ?_
    refine And.intro (fun h => ?_) (fun h => ?_)
    · rw [if_pos h] at hq
      repeat refine hX ?_
      exact And.intro (Or.inr rfl) (hq (1, pl, _, _, L, _, _, _) ⟨rfl, ⟨rfl, rfl, hsd, htt⟩, r1, r2, hS2, hT3, hS3⟩)
    · rw [if_neg h] at hq
      repeat refine hX ?_
      exact And.intro (Or.inl rfl) (hq (0, pl, _, _, L, _, _, _) ⟨rfl, hk2⟩)
end TX
