/-! The model: a side as it becomes; whether equations are solved. -/
def skR (T : List (Nat × Nat)) (pl sg : List Int32) : Prop := stN 300 (T.map fun z => 9 + z.1) pl ∧ stN 300 (T.map fun z => z.2) sg
def brR (O bu : List Int32) : Prop := bu.length = 400 ∧ O.length ≤ 400 ∧ bu.take O.length = O
theorem brR_push {O bu : List Int32} (h : brR O bu) (ho : O.length < 400) (c : Int32) : brR (O ++ [c]) (bu.set O.length c) := by
  obtain ⟨h1, h2, h3⟩ := h
  refine ⟨by rw [List.length_set]; exact h1, by rw [List.length_append, List.length_singleton]; omega, ?_⟩
  rw [List.length_append, List.length_singleton, take_set (by omega), h3]
theorem brR_at {O bu : List Int32} (h : brR O bu) {k : Nat} (hk : k < O.length) : bu.getD k 0 = O.getD k 0 := by
  rw [← getD_take (n := O.length) hk, h.2.2]
theorem mem_cf : ∀ (b : List Nat) (d : Nat), d ∈ b → 1 ≤ cf d b
  | [], d, h => by simp at h
  | e :: b, d, h => by
    rw [cf]
    rcases List.mem_cons.mp h with rfl | h
    · rw [if_pos rfl]; omega
    · have := mem_cf b d h
      omega
theorem sub_rig {bs : List (List Nat)} (hr : rig bs) {c : Int32} (hk : ¬ kdI c = -1) (hf : ¬ fxI c = 1) (a1 a2 : List Int32) : sub (bs.getD (kN c) []) a1 a2 = c :: ((if 1 ≤ arN c then a1 else []) ++ (if 2 ≤ arN c then a2 else [])) := by
  have h6 := kN_rig hk hf
  have h10 := (kN_ok hk).2
  rw [hr (kN c) h6 h10]
  have key : ∀ c ∈ ([85, 86, 87, 88, 89, 90, 97, 98, 102, 103] : List Int32), ¬ fxI c = 1 → (c = 97 ∨ c = 98 ∨ c = 102 ∨ c = 103) := by decide
  rcases key c (letters10 hk) hf with rfl | rfl | rfl | rfl
  · rfl
  · rfl
  · show 102 :: (a1 ++ []) = 102 :: (a1 ++ [])
    rfl
  · show 103 :: (a1 ++ (a2 ++ [])) = 103 :: (a1 ++ a2)
    rw [List.append_nil]
section MM
variable {sc : List Int32} {X : pX} {B : pB} {Q : pQ} {nw fr pa rf tx bo ss op wr f1 f2 ch sd pk sv sz hpz pl sg bu : List Int32} {st ln ai fi dp wm pm sm vm wt : Int32} {hsh : Int64}
theorem m_waits (hX : Cl sc X) {T : List (Nat × Nat)} (hT : skR T pl sg) (hl : T.length < 300) {p k : Nat} (hq : ∀ pl' sg', skR ((p, k) :: T) pl' sg' → Q none (MW nw fr pa st rf tx ln bo ss ai fi op dp wr wm f1 f2 pm ch sd sm pk sv sz vm hpz pl' sg' (nI (T.length + 1)) bu hsh)) : X B 169 0 [some (.ref 0), some (.int (nI (9 + p))), some (.int (nI k))] [] (MW nw fr pa st rf tx ln bo ss ai fi op dp wr wm f1 f2 pm ch sd sm pk sv sz vm hpz pl sg (nI T.length) bu hsh) Q := by
  obtain ⟨h1, h2⟩ := hT
  have e1 : (T.map fun z => 9 + z.1).length = T.length := List.length_map _
  have e2 : (T.map fun z => z.2).length = T.length := List.length_map _
  have l1 := h1.1
  have l2 := h2.1
  iterate 6 refine hX ?_
  refine And.intro (vp_in_nI (by omega) (by omega)) ?_
  rw [nI_clamp (by omega)]
  iterate 6 refine hX ?_
  refine And.intro (vp_in_nI (by omega) (by omega)) ?_
  rw [nI_clamp (by omega)]
  iterate 7 refine hX ?_
  rw [show nI T.length + 1 = nI (T.length + 1) from (nI_succ _).symm]
  have p1 := stN_push (p := 9 + p) h1 (by omega)
  have p2 := stN_push (p := k) h2 (by omega)
  rw [e1] at p1
  rw [e2] at p2
  exact hq _ _ ⟨p1, p2⟩
theorem c_waits (hX : Cl sc X) (hB : 1 ≤ B.1) {me n : Nat} {ls : pL} {T : List (Nat × Nat)} (hT : skR T pl sg) (hl : T.length < 300) {p k : Nat} (hq : ∀ pl' sg', skR ((p, k) :: T) pl' sg' → X B me n ls [] (MW nw fr pa st rf tx ln bo ss ai fi op dp wr wm f1 f2 pm ch sd sm pk sv sz vm hpz pl' sg' (nI (T.length + 1)) bu hsh) Q) : oCallV 169 11 3 3 n X B me ls [.int (nI k), .int (nI (9 + p)), .ref 0] (MW nw fr pa st rf tx ln bo ss ai fi op dp wr wm f1 f2 pm ch sd sm pk sv sz vm hpz pl sg (nI T.length) bu hsh) Q :=
  And.intro trivial (cMw [.ref 0, .int (nI (9 + p)), .int (nI k)] (fun u : List Int32 × List Int32 => skR ((p, k) :: T) u.1 u.2) (fun _ => none) (fun u => (MW nw fr pa st rf tx ln bo ss ai fi op dp wr wm f1 f2 pm ch sd sm pk sv sz vm hpz u.1 u.2 (nI (T.length + 1)) bu hsh)) hB rfl rfl (fun _ => rfl) (fun _ => rfl) (fun _ => rfl) (fun Q' hQ' => m_waits hX hT hl (fun a b h => hQ' (a, b) h)) (fun u hu => hq u.1 u.2 hu))
def kidT (p : Nat) (c : Int32) (r : List Int32) (T : List (Nat × Nat)) : List (Nat × Nat) := if arN c = 0 then T else if arN c = 1 then (p + 1, 0) :: T else (p + 1, 0) :: (p + 1 + tlen r 1, 0) :: T
theorem m_buildsLetter (hX : Cl sc X) (hB : 5 ≤ B.1) {E : List (List Int32)} (hg : gE E) {c : Int32} {r xr : List Int32} {p : Nat} (h1 : E.flatten.drop p = (c :: r) ++ xr) (h2 : okF (c :: r) 1 = true) {T : List (Nat × Nat)} (hT : skR T pl sg) (hl : T.length ≤ 200) {O : List Int32} (hO : brR O bu) (hO4 : O.length < 400) (hq : ∀ bu' pl' sg', brR (O ++ [c]) bu' → skR (kidT p c r T) pl' sg' → Q none (MW (rowE E) fr pa st rf tx ln bo ss ai fi op dp wr wm f1 f2 pm ch sd sm pk sv sz vm hpz pl' sg' (nI (kidT p c r T).length) bu' hsh)) : X B 170 0 [some (.ref 0), some (.int (nI O.length)), some (.int (nI (9 + p)))] [] (MW (rowE E) fr pa st rf tx ln bo ss ai fi op dp wr wm f1 f2 pm ch sd sm pk sv sz vm hpz pl sg (nI T.length) bu hsh) Q := by
  have hrl := rowE_len hg
  obtain ⟨k1, k2, k3⟩ := drop_head h1
  obtain ⟨rx1, rx2, rx3⟩ := row_at hg h1 (okF_pos h2 (by omega))
  have hkc := rx3 c List.mem_cons_self
  have h2' : okF r (0 + arN c) = true := h2
  rw [Nat.zero_add] at h2'
  rw [List.length_cons] at rx2
  have hbl := hO.1
  have hb2 := brR_push hO hO4 c
  have e9 : nI (9 + p) + 1 = nI (9 + (p + 1)) := (nI_succ (9 + p)).symm
  iterate 7 refine hX ?_
  refine And.intro (vp_in_nI (by omega) (by omega)) ?_
  refine hX ?_
  refine And.intro (vp_in_nI (by omega) (by omega)) ?_
  rw [nI_clamp (by omega), nI_clamp (by omega), rowE_let hg, k2]
  iterate 4 refine hX ?_
  refine And.intro (vp_in_nI (by omega) (by omega)) ?_
  rw [nI_clamp (by omega), rowE_let hg, k2]
  refine hX (cP [] [.int c] [] (some (.int (prI c))) [.int (prI c)] (by omega) rfl rfl rfl rfl (fun Q' hQ' => m_partsOf hX (by show 2 ≤ B.1 - 1; omega) hQ') ?_)
  rw [prI_let hkc]
  have last : ∀ (T' : List (Nat × Nat)) (pl sg : List Int32), skR T' pl sg → T'.length ≤ 201 → (1 ≤ arN c → kidT p c r T = (p + 1, 0) :: T') → (arN c = 0 → kidT p c r T = T') → X B 170 37 [some (.ref 0), some (.int (nI O.length)), some (.int (nI (9 + p)))] [] (MW (rowE E) fr pa st rf tx ln bo ss ai fi op dp wr wm f1 f2 pm ch sd sm pk sv sz vm hpz pl sg (nI T'.length) (bu.set O.length c) hsh) Q := by
    intro T' pl sg hT' hl' ha1 ha0
    iterate 4 refine hX ?_
    refine And.intro (vp_in_nI (by omega) (by omega)) ?_
    rw [nI_clamp (by omega), rowE_let hg, k2]
    refine hX (cP [] [.int c] [] (some (.int (prI c))) [.int (prI c)] (by omega) rfl rfl rfl rfl (fun Q' hQ' => m_partsOf hX (by show 2 ≤ B.1 - 1; omega) hQ') ?_)
    rw [prI_let hkc]
    have har := arN_le c
    refine hX ?_
    by_cases h0 : arN c = 0
    · rw [h0]
      refine And.intro (fun _ => ?_) (fun h => absurd (by decide) h)
      refine hX ?_
      rw [ha0 h0] at hq
      exact hq _ pl sg hb2 hT'
    · refine And.intro (fun h => absurd ((nle (b := 0) (by omega) (by omega)).mp h) (by omega)) (fun _ => ?_)
      rw [ha1 (by omega)] at hq
      iterate 6 refine hX ?_
      rw [e9]
      refine c_waits (k := 0) hX (by omega) hT' (by omega) (fun pl' sg' hS => ?_)
      refine hX ?_
      exact hq _ pl' sg' hb2 hS
  iterate 2 refine hX ?_
  rcases (show arN c = 0 ∨ arN c = 1 ∨ arN c = 2 by have := arN_le c; omega) with ha | ha | ha
  · rw [ha]
    refine And.intro (fun h => absurd h (by decide)) (fun _ => ?_)
    exact last T pl sg hT (by omega) (fun h => by omega) (fun _ => by rw [kidT, if_pos ha])
  · rw [ha]
    refine And.intro (fun h => absurd h (by decide)) (fun _ => ?_)
    exact last T pl sg hT (by omega) (fun _ => by rw [kidT, if_neg (by omega), if_pos ha]) (fun h => by omega)
  · rw [ha]
    rw [ha] at h2'
    have x1 := okF_take r 1 1 h2'
    have lx := tlen_le r 1
    have ex : r = r.take (tlen r 1) ++ r.drop (tlen r 1) := (List.take_append_drop _ _).symm
    have b1 : E.flatten.drop (p + 1) = r.take (tlen r 1) ++ (r.drop (tlen r 1) ++ xr) := by rw [k3, ← List.append_assoc, ← ex]
    obtain ⟨c1, c2, c3⟩ := row_at hg b1 (okF_pos x1 (by omega))
    have lx2 : (r.take (tlen r 1)).length = tlen r 1 := by rw [List.length_take]; omega
    refine And.intro (fun _ => ?_) (fun h => absurd rfl h)
    iterate 6 refine hX ?_
    rw [e9]
    refine c_behind hX (by omega) hrl c1 x1 c3 rfl ?_
    rw [lx2, Nat.add_assoc 9 (p + 1)]
    iterate 2 refine hX ?_
    refine c_waits (k := 0) hX (by omega) hT (by omega) (fun pl' sg' hS => ?_)
    exact last _ pl' sg' hS (by rw [List.length_cons]; omega) (fun _ => by rw [kidT, if_neg (by omega), if_neg (by omega)]) (fun h => by omega)
theorem m_bterm (hX : Cl sc X) (hB : 6 ≤ B.1) {E : List (List Int32)} (hg : gE E) {bs : List (List Nat)} (hc : chB bs ch) (hr : rig bs) {v1 v2 v3 : Int32} : ∀ (m : Nat) (x xr : List Int32) (p : Nat), x.length ≤ m → E.flatten.drop p = x ++ xr → okF x 1 = true → (∀ c ∈ x, bv (arN c) (bs.getD (kN c) [])) → ∀ (T : List (Nat × Nat)) (O bu pl sg : List Int32) (l5 l6 l7 l8 l9 : Option Value), skR ((p, 0) :: T) pl sg → brR O bu → T.length + x.length ≤ 50 → O.length + (grw bs x).length ≤ 400 → (∀ bu' pl' sg' l5' l6' l7' l8' l9', brR (O ++ grw bs x) bu' → skR T pl' sg' → X B 171 19 [some (.ref 0), some (.int v1), some (.int v2), some (.int v3), some (.int (nI (O ++ grw bs x).length)), l5', l6', l7', l8', l9'] [] (MW (rowE E) fr pa st rf tx ln bo ss ai fi op dp wr wm f1 f2 pm ch sd sm pk sv sz vm hpz pl' sg' (nI T.length) bu' hsh) Q) → X B 171 19 [some (.ref 0), some (.int v1), some (.int v2), some (.int v3), some (.int (nI O.length)), l5, l6, l7, l8, l9] [] (MW (rowE E) fr pa st rf tx ln bo ss ai fi op dp wr wm f1 f2 pm ch sd sm pk sv sz vm hpz pl sg (nI (T.length + 1)) bu hsh) Q := by
  have hrl := rowE_len hg
  intro m
  induction m with
  | zero => intro x xr p hm h1 h2; have := okF_pos h2 (by omega); omega
  | succ m ih =>
    intro x xr p hm h1 h2 hv T O bu pl sg l5 l6 l7 l8 l9 hS hO hT50 hO4 hq
    cases x with
    | nil => cases h2
    | cons c r =>
    obtain ⟨k1, k2, k3⟩ := drop_head h1
    obtain ⟨rx1, rx2, rx3⟩ := row_at hg h1 (okF_pos h2 (by omega))
    have hkc := rx3 c List.mem_cons_self
    have hbv := hv c List.mem_cons_self
    have h2' : okF r (0 + arN c) = true := h2
    rw [Nat.zero_add] at h2'
    rw [List.length_cons] at rx2 hm hT50
    have lx := tlen_le r 1
    have ex : r = r.take (tlen r 1) ++ r.drop (tlen r 1) := (List.take_append_drop _ _).symm
    have lx2 : (r.take (tlen r 1)).length = tlen r 1 := by rw [List.length_take]; omega
    have b1 : E.flatten.drop (p + 1) = r.take (tlen r 1) ++ (r.drop (tlen r 1) ++ xr) := by rw [k3, ← List.append_assoc, ← ex]
    have b2 : E.flatten.drop (p + 1 + tlen r 1) = r.drop (tlen r 1) ++ xr := drop_split k3 lx
    have o1 : 1 ≤ arN c → okF (r.take (tlen r 1)) 1 = true := fun ha => okF_take r 1 (arN c - 1) (by rw [show 1 + (arN c - 1) = arN c by omega]; exact h2')
    have o2 : 2 ≤ arN c → okF (r.drop (tlen r 1)) 1 = true := fun ha => okF_drop r 1 1 (by rw [show 1 + 1 = arN c by have := arN_le c; omega]; exact h2')
    have g1 : 1 ≤ arN c → grw bs r = grw bs (r.take (tlen r 1)) := fun ha => by
      conv => lhs; rw [ex]
      exact grw_app (o1 ha)
    have hgr : grw bs (c :: r) = sub (bs.getD (kN c) []) (grw bs (r.take (tlen r 1))) (grw bs (r.drop (tlen r 1))) := grw_cons (m := 0) (by rw [Nat.zero_add]; exact h2') hbv (fun ha => (g1 ha).symm) (fun _ => rfl)
    have first : ∀ (ha : 1 ≤ arN c) (T : List (Nat × Nat)) (O bu pl sg : List Int32) (l5 l6 l7 l8 l9 : Option Value), skR ((p + 1, 0) :: T) pl sg → brR O bu → T.length + r.length ≤ 50 → O.length + (grw bs (r.take (tlen r 1))).length ≤ 400 → (∀ bu' pl' sg' l5' l6' l7' l8' l9', brR (O ++ grw bs (r.take (tlen r 1))) bu' → skR T pl' sg' → X B 171 19 [some (.ref 0), some (.int v1), some (.int v2), some (.int v3), some (.int (nI (O ++ grw bs (r.take (tlen r 1))).length)), l5', l6', l7', l8', l9'] [] (MW (rowE E) fr pa st rf tx ln bo ss ai fi op dp wr wm f1 f2 pm ch sd sm pk sv sz vm hpz pl' sg' (nI T.length) bu' hsh) Q) → X B 171 19 [some (.ref 0), some (.int v1), some (.int v2), some (.int v3), some (.int (nI O.length)), l5, l6, l7, l8, l9] [] (MW (rowE E) fr pa st rf tx ln bo ss ai fi op dp wr wm f1 f2 pm ch sd sm pk sv sz vm hpz pl sg (nI (T.length + 1)) bu hsh) Q := fun ha T O bu pl sg l5 l6 l7 l8 l9 a b d e f => ih _ _ (p + 1) (by omega) b1 (o1 ha) (fun c hc => hv c (List.mem_cons_of_mem _ (List.mem_of_mem_take hc))) T O bu pl sg l5 l6 l7 l8 l9 a b (by omega) e f
    have second : ∀ (ha : 2 ≤ arN c) (T : List (Nat × Nat)) (O bu pl sg : List Int32) (l5 l6 l7 l8 l9 : Option Value), skR ((p + 1 + tlen r 1, 0) :: T) pl sg → brR O bu → T.length + r.length ≤ 50 → O.length + (grw bs (r.drop (tlen r 1))).length ≤ 400 → (∀ bu' pl' sg' l5' l6' l7' l8' l9', brR (O ++ grw bs (r.drop (tlen r 1))) bu' → skR T pl' sg' → X B 171 19 [some (.ref 0), some (.int v1), some (.int v2), some (.int v3), some (.int (nI (O ++ grw bs (r.drop (tlen r 1))).length)), l5', l6', l7', l8', l9'] [] (MW (rowE E) fr pa st rf tx ln bo ss ai fi op dp wr wm f1 f2 pm ch sd sm pk sv sz vm hpz pl' sg' (nI T.length) bu' hsh) Q) → X B 171 19 [some (.ref 0), some (.int v1), some (.int v2), some (.int v3), some (.int (nI O.length)), l5, l6, l7, l8, l9] [] (MW (rowE E) fr pa st rf tx ln bo ss ai fi op dp wr wm f1 f2 pm ch sd sm pk sv sz vm hpz pl sg (nI (T.length + 1)) bu hsh) Q := fun ha T O bu pl sg l5 l6 l7 l8 l9 a b d e f => ih _ _ (p + 1 + tlen r 1) (by rw [List.length_drop]; omega) b2 (o2 ha) (fun c hc => hv c (List.mem_cons_of_mem _ (List.mem_of_mem_drop hc))) T O bu pl sg l5 l6 l7 l8 l9 a b (by rw [List.length_drop]; omega) e f
    rw [hgr] at hO4 hq
    generalize grw bs (r.take (tlen r 1)) = A1 at first hO4 hq
    generalize grw bs (r.drop (tlen r 1)) = A2 at second hO4 hq
    -- one turn of the loop, up to the question whether the letter is FLEX
    have turn : ∀ (k : Nat) (T : List (Nat × Nat)) (n : Int32) (bu pl sg : List Int32) (l5 l6 l7 l8 l9 : Option Value), T.length ≤ 200 → k ≤ 10 → skR ((p, k) :: T) pl sg → X B 171 68 [some (.ref 0), some (.int v1), some (.int v2), some (.int v3), some (.int n), some (.int (nI (9 + p))), some (.int (nI k)), l7, l8, l9] [.int (fxI c)] (MW (rowE E) fr pa st rf tx ln bo ss ai fi op dp wr wm f1 f2 pm ch sd sm pk sv sz vm hpz pl sg (nI T.length) bu hsh) Q → X B 171 19 [some (.ref 0), some (.int v1), some (.int v2), some (.int v3), some (.int n), l5, l6, l7, l8, l9] [] (MW (rowE E) fr pa st rf tx ln bo ss ai fi op dp wr wm f1 f2 pm ch sd sm pk sv sz vm hpz pl sg (nI (T.length + 1)) bu hsh) Q := by
      intro k T n bu pl sg l5 l6 l7 l8 l9 hT hk hS hkk
      obtain ⟨s1, s2⟩ := hS
      have e1 : (T.map fun z => 9 + z.1).length = T.length := List.length_map _
      have e2 : (T.map fun z => z.2).length = T.length := List.length_map _
      have t1 := stN_top s1
      have t2 := stN_top s2
      rw [e1] at t1
      rw [e2] at t2
      dsimp only at t1 t2
      have q1 := s1.1
      have q2 := s2.1
      iterate 3 refine hX ?_
      refine And.intro (fun h => absurd ((nle (b := 0) (by omega) (by omega)).mp h) (by omega)) (fun _ => ?_)
      iterate 11 refine hX ?_
      rw [nI_pred]
      refine And.intro (vp_in_nI (by omega) (by omega)) ?_
      rw [nI_clamp (by omega), t1.1]
      iterate 6 refine hX ?_
      refine And.intro (vp_in_nI (by omega) (by omega)) ?_
      rw [nI_clamp (by omega), t2.1]
      iterate 5 refine hX ?_
      refine And.intro (vp_in_nI (by omega) (by omega)) ?_
      rw [nI_clamp (by omega), rowE_let hg, k2]
      exact hX (cP [] [.int c] [] (some (.int (fxI c))) [.int (fxI c)] (by omega) rfl rfl rfl rfl (fun Q' hQ' => m_isFlex hX (by show 1 ≤ B.1 - 1; omega) hQ') hkk)
    have hST : ∀ (k : Nat) (T : List (Nat × Nat)) (pl sg : List Int32), skR ((p, k) :: T) pl sg → skR T pl sg := fun k T pl sg h => ⟨(stN_top h.1).2.1, (stN_top h.2).2.1⟩
    rcases fxI_or c with hf | hf
    · have hnf : ¬ fxI c = 1 := by rw [hf]; decide
      rw [sub_rig hr hkc hnf] at hO4 hq
      rw [List.length_cons] at hO4
      refine turn 0 T _ bu pl sg l5 l6 l7 l8 l9 (by omega) (by omega) hS ?_
      rw [hf]
      refine hX (And.intro (fun _ => ?_) (fun h => absurd rfl h))
      iterate 4 refine hX ?_
      refine And.intro trivial (cMw [.ref 0, .int (nI O.length), .int (nI (9 + p))] (fun u : List Int32 × List Int32 × List Int32 => brR (O ++ [c]) u.1 ∧ skR (kidT p c r T) u.2.1 u.2.2) (fun _ => none) (fun u => (MW (rowE E) fr pa st rf tx ln bo ss ai fi op dp wr wm f1 f2 pm ch sd sm pk sv sz vm hpz u.2.1 u.2.2 (nI (kidT p c r T).length) u.1 hsh)) (by omega) rfl rfl (fun _ => rfl) (fun _ => rfl) (fun _ => rfl) (fun Q' hQ' => m_buildsLetter hX (by show 5 ≤ B.1 - 1; omega) hg h1 h2 (hST 0 T pl sg hS) (by omega) hO (by omega) (fun a b d e f => hQ' (a, b, d) ⟨e, f⟩)) ?_)
      rintro ⟨bu1, pl1, sg1⟩ ⟨u1, u2⟩
      dsimp only at u1 u2 ⊢
      iterate 2 refine hX ?_
      rw [show nI O.length + 1 = nI (O ++ [c]).length by rw [List.length_append, List.length_singleton, nI_succ]]
      have hOl : (O ++ [c]).length = O.length + 1 := by rw [List.length_append]; rfl
      have hass : ∀ W : List Int32, O ++ c :: W = O ++ [c] ++ W := fun W => by rw [List.append_assoc]; rfl
      rw [hass] at hq
      rcases (show arN c = 0 ∨ arN c = 1 ∨ arN c = 2 by have := arN_le c; omega) with ha | ha | ha
      · rw [kidT, if_pos ha] at u2 ⊢
        rw [if_neg (by omega), if_neg (by omega), List.append_nil, List.append_nil] at hq
        exact hq bu1 pl1 sg1 _ _ _ _ _ u1 u2
      · rw [kidT, if_neg (by omega), if_pos ha] at u2 ⊢
        rw [if_pos (by omega), if_neg (by omega), List.append_nil] at hq hO4
        rw [List.length_cons]
        exact first (by omega) T _ bu1 pl1 sg1 _ _ _ _ _ u2 u1 (by omega) (by omega) hq
      · rw [kidT, if_neg (by omega), if_neg (by omega)] at u2 ⊢
        rw [if_pos (by omega), if_pos (by omega)] at hq hO4
        rw [List.length_append] at hO4
        rw [List.length_cons, List.length_cons]
        refine first (by omega) ((p + 1 + tlen r 1, 0) :: T) _ bu1 pl1 sg1 _ _ _ _ _ u2 u1 (by rw [List.length_cons]; omega) (by omega) (fun bu2 pl2 sg2 l5 l6 l7 l8 l9 w1 w2 => ?_)
        rw [List.length_cons]
        refine second (by omega) T _ bu2 pl2 sg2 _ _ _ _ _ w2 w1 (by omega) (by rw [List.length_append]; omega) (fun bu3 pl3 sg3 l5 l6 l7 l8 l9 w3 w4 => ?_)
        rw [← List.append_assoc] at hq
        exact hq bu3 pl3 sg3 l5 l6 l7 l8 l9 w3 w4
    · obtain ⟨fk1, fk2, fk3⟩ := fx_kN hf
      obtain ⟨hb, hw⟩ := hc.2 _ fk3
      have hmem : ∀ d, d ∈ bs.getD (kN c) [] → 1 ≤ cf d (bs.getD (kN c) []) := fun d hd => mem_cf _ d hd
      have hcp := cf_pos_bv hbv
      have hch6 := hc.1
      generalize hbb : bs.getD (kN c) [] = b at hO4 hq hb hw hmem hcp
      have hb6 := hb.1
      have inner : ∀ (y : List Nat) (k : Nat), b.drop k = y → k ≤ b.length → ∀ (O bu pl sg : List Int32) (l5 l6 l7 l8 l9 : Option Value), skR ((p, k) :: T) pl sg → brR O bu → O.length + (sub y A1 A2).length ≤ 400 → (∀ bu' pl' sg' l5' l6' l7' l8' l9', brR (O ++ sub y A1 A2) bu' → skR T pl' sg' → X B 171 19 [some (.ref 0), some (.int v1), some (.int v2), some (.int v3), some (.int (nI (O ++ sub y A1 A2).length)), l5', l6', l7', l8', l9'] [] (MW (rowE E) fr pa st rf tx ln bo ss ai fi op dp wr wm f1 f2 pm ch sd sm pk sv sz vm hpz pl' sg' (nI T.length) bu' hsh) Q) → X B 171 19 [some (.ref 0), some (.int v1), some (.int v2), some (.int v3), some (.int (nI O.length)), l5, l6, l7, l8, l9] [] (MW (rowE E) fr pa st rf tx ln bo ss ai fi op dp wr wm f1 f2 pm ch sd sm pk sv sz vm hpz pl sg (nI (T.length + 1)) bu hsh) Q := by
        intro y
        induction y with
        | nil =>
          intro k hy hk O bu pl sg l5 l6 l7 l8 l9 hS hO hO4 hq
          have hkb : k = b.length := by have := congrArg List.length hy; rw [List.length_drop] at this; simp at this; omega
          refine turn k T _ bu pl sg l5 l6 l7 l8 l9 (by omega) (by omega) hS ?_
          rw [hf]
          refine hX (And.intro (fun h => absurd h (by decide)) (fun _ => ?_))
          iterate 6 refine hX ?_
          refine And.intro (vp_in_nI (by omega) (by omega)) ?_
          rw [nI_clamp (by omega), rowE_let hg, k2]
          iterate 3 refine hX ?_
          rw [fk2]
          refine And.intro (vp_in_nI (by omega) (by omega)) ?_
          rw [nI_clamp (by omega), hw]
          iterate 3 refine hX ?_
          refine cP [] [.int (nI (wB b))] [] (some (.int (nI b.length))) [.int (nI b.length)] (by omega) rfl rfl rfl rfl (fun Q' hQ' => m_sizeOf hX hb hQ') ?_
          iterate 4 refine hX ?_
          refine And.intro (fun _ => ?_) (fun h => absurd ((nle (by omega) (by omega)).mpr (by omega)) h)
          refine hX ?_
          have := hq bu pl sg (some (.int (nI (9 + p)))) (some (.int (nI k))) (some (.int (nI (wB b)))) (some (.int (nI b.length))) l9 (by rw [show sub [] A1 A2 = [] from rfl, List.append_nil]; exact hO) (hST k T pl sg hS)
          rw [show sub [] A1 A2 = [] from rfl, List.append_nil] at this
          exact this
        | cons d y ihy =>
          intro k hy hk O bu pl sg l5 l6 l7 l8 l9 hS hO hO4 hq
          have hkb : k < b.length := by have := congrArg List.length hy; rw [List.length_drop, List.length_cons] at this; omega
          have hd : b.getD k 0 = d := by
            have : (b.drop k).getD 0 0 = d := by rw [hy]; rfl
            rw [List.getD_eq_getElem?_getD, List.getElem?_drop] at this
            rw [List.getD_eq_getElem?_getD]
            exact this
          have hdm : d ∈ b := List.mem_of_mem_drop (i := k) (by rw [hy]; exact List.mem_cons_self)
          have hy2 : b.drop (k + 1) = y := by rw [← List.drop_drop, hy]; rfl
          have hd16 := hb.2 d hdm
          refine turn k T _ bu pl sg l5 l6 l7 l8 l9 (by omega) (by omega) hS ?_
          rw [hf]
          refine hX (And.intro (fun h => absurd h (by decide)) (fun _ => ?_))
          iterate 6 refine hX ?_
          refine And.intro (vp_in_nI (by omega) (by omega)) ?_
          rw [nI_clamp (by omega), rowE_let hg, k2]
          iterate 3 refine hX ?_
          rw [fk2]
          refine And.intro (vp_in_nI (by omega) (by omega)) ?_
          rw [nI_clamp (by omega), hw]
          iterate 3 refine hX ?_
          refine cP [] [.int (nI (wB b))] [] (some (.int (nI b.length))) [.int (nI b.length)] (by omega) rfl rfl rfl rfl (fun Q' hQ' => m_sizeOf hX hb hQ') ?_
          iterate 4 refine hX ?_
          refine And.intro (fun h => absurd ((nle (by omega) (by omega)).mp h) (by omega)) (fun _ => ?_)
          iterate 4 refine hX ?_
          refine cP [] [.int (nI (wB b)), .int (nI b.length), .int (nI k)] [] (some (.int (nI (b.getD k 0)))) [.int (nI (b.getD k 0))] (by omega) rfl rfl rfl rfl (fun Q' hQ' => m_signAt hX hb (by omega) hQ') ?_
          rw [hd]
          iterate 7 refine hX ?_
          rw [show nI k + 1 = nI (k + 1) from (nI_succ k).symm]
          refine c_waits hX (by omega) (hST k T pl sg hS) (by omega) (fun pl1 sg1 hS1 => ?_)
          iterate 3 refine hX ?_
          by_cases h2d : d ≤ 2
          · refine And.intro (fun _ => ?_) (fun h => absurd ((nle (b := 2) (by omega) (by omega)).mpr h2d) h)
            iterate 4 refine hX ?_
            by_cases hd1 : d = 1
            · subst hd1
              have ha1 := hcp.1 (hmem 1 hdm)
              rw [sub_cons1] at hO4 hq
              rw [List.length_append] at hO4
              refine And.intro (fun _ => ?_) (fun h => absurd rfl h)
              iterate 6 refine hX ?_
              rw [show nI (9 + p) + 1 = nI (9 + (p + 1)) from (nI_succ (9 + p)).symm]
              refine c_waits (T := (p, k + 1) :: T) (k := 0) hX (by omega) hS1 (by rw [List.length_cons]; omega) (fun pl2 sg2 hS2 => ?_)
              refine hX ?_
              refine first ha1 ((p, k + 1) :: T) O bu pl2 sg2 _ _ _ _ _ hS2 hO (by rw [List.length_cons]; omega) (by omega) (fun bu3 pl3 sg3 l5 l6 l7 l8 l9 w1 w2 => ?_)
              exact ihy (k + 1) hy2 (by omega) _ bu3 pl3 sg3 l5 l6 l7 l8 l9 w2 w1 (by rw [List.length_append]; omega) (fun bu4 pl4 sg4 l5 l6 l7 l8 l9 w3 w4 => by
                rw [List.append_assoc] at w3 ⊢
                exact hq bu4 pl4 sg4 l5 l6 l7 l8 l9 w3 w4)
            · have hd2 : d = 2 := by omega
              subst hd2
              have ha2 := hcp.2 (hmem 2 hdm)
              rw [sub_cons2] at hO4 hq
              rw [List.length_append] at hO4
              refine And.intro (fun h => absurd h (by decide)) (fun _ => ?_)
              obtain ⟨c1, c2, c3⟩ := row_at hg b1 (okF_pos (o1 (by omega)) (by omega))
              iterate 5 refine hX ?_
              rw [show nI (9 + p) + 1 = nI (9 + (p + 1)) from (nI_succ (9 + p)).symm]
              refine c_behind hX (by omega) hrl c1 (o1 (by omega)) c3 rfl ?_
              rw [lx2, Nat.add_assoc 9 (p + 1)]
              iterate 2 refine hX ?_
              refine c_waits (T := (p, k + 1) :: T) (k := 0) hX (by omega) hS1 (by rw [List.length_cons]; omega) (fun pl2 sg2 hS2 => ?_)
              refine hX ?_
              refine second ha2 ((p, k + 1) :: T) O bu pl2 sg2 _ _ _ _ _ hS2 hO (by rw [List.length_cons]; omega) (by omega) (fun bu3 pl3 sg3 l5 l6 l7 l8 l9 w1 w2 => ?_)
              exact ihy (k + 1) hy2 (by omega) _ bu3 pl3 sg3 l5 l6 l7 l8 l9 w2 w1 (by rw [List.length_append]; omega) (fun bu4 pl4 sg4 l5 l6 l7 l8 l9 w3 w4 => by
                rw [List.append_assoc] at w3 ⊢
                exact hq bu4 pl4 sg4 l5 l6 l7 l8 l9 w3 w4)
          · rw [sub_cons3 (by omega) (by omega)] at hO4 hq
            rw [List.length_cons] at hO4
            refine And.intro (fun h => absurd ((nle (b := 2) (by omega) (by omega)).mp h) h2d) (fun _ => ?_)
            iterate 5 refine hX ?_
            refine cP [] [.int (nI d)] [] (some (.int (ltN d))) [.int (ltN d), .int (nI O.length), .ref 20] (by omega) rfl rfl rfl rfl (fun Q' hQ' => m_byteOf hX (by omega) (by omega) hQ') ?_
            refine hX ?_
            refine And.intro (vp_in_nI (by rw [hO.1]; omega) (by rw [hO.1]; omega)) ?_
            rw [nI_clamp (by omega)]
            iterate 3 refine hX ?_
            rw [show nI O.length + 1 = nI (O ++ [ltN d]).length by rw [List.length_append, List.length_singleton, nI_succ]]
            exact ihy (k + 1) hy2 (by omega) _ _ pl1 sg1 _ _ _ _ _ hS1 (brR_push hO (by omega) _) (by rw [List.length_append, List.length_singleton]; omega) (fun bu4 pl4 sg4 l5 l6 l7 l8 l9 w3 w4 => by
                rw [List.append_assoc] at w3 ⊢
                exact hq bu4 pl4 sg4 l5 l6 l7 l8 l9 w3 w4)
      exact inner b 0 rfl (Nat.zero_le _) O bu pl sg l5 l6 l7 l8 l9 hS hO hO4 hq
theorem m_builds (hX : Cl sc X) (hB : 6 ≤ B.1) {E : List (List Int32)} (hg : gE E) {bs : List (List Nat)} (hc : chB bs ch) (hr : rig bs) (hv : ∀ c ∈ E.flatten, bv (arN c) (bs.getD (kN c) [])) (hp : pl.length = 300 ∧ sg.length = 300) {i j : Nat} (hi : i < E.length / 2) (hj : j < 2) {O : List Int32} (hO : brR O bu) (hO4 : O.length + (grw bs (E.getD (2 * i + j) [])).length ≤ 400) (hq : ∀ bu' pl' sg' wt', brR (O ++ grw bs (E.getD (2 * i + j) [])) bu' → pl'.length = 300 ∧ sg'.length = 300 → Q (some (.int (nI (grw bs (E.getD (2 * i + j) [])).length))) (MW (rowE E) fr pa st rf tx ln bo ss ai fi op dp wr wm f1 f2 pm ch sd sm pk sv sz vm hpz pl' sg' wt' bu' hsh)) : X B 171 0 [some (.ref 0), some (.int (nI i)), some (.int (nI j)), some (.int (nI O.length)), none, none, none, none, none, none] [] (MW (rowE E) fr pa st rf tx ln bo ss ai fi op dp wr wm f1 f2 pm ch sd sm pk sv sz vm hpz pl sg wt bu hsh) Q := by
  have h8 := hg.1.1
  have h40 := hg.1.2.1
  obtain ⟨xr, r1, r2⟩ := side_at hg.2.1 (k := 2 * i + j) (by omega)
  have hxl : (E.getD (2 * i + j) []).length ≤ 40 := by
    have := congrArg List.length r1
    rw [List.length_drop, List.length_append] at this
    omega
  have hvx : ∀ c ∈ E.getD (2 * i + j) [], bv (arN c) (bs.getD (kN c) []) := fun c hc => hv c (List.mem_flatten.mpr ⟨_, getD_mem (by omega), hc⟩)
  generalize hx : E.getD (2 * i + j) [] = x at r1 r2 hxl hO4 hq hvx
  iterate 10 refine hX ?_
  refine c_begin2 hX (by omega) hg (by omega) rfl ?_
  iterate 2 refine hX ?_
  refine c_waits (T := []) (k := 0) hX (by omega) ⟨stN_nil hp.1, stN_nil hp.2⟩ (by simp) (fun pl1 sg1 hS => ?_)
  refine m_bterm hX hB hg hc hr x.length x xr _ (Nat.le_refl _) r1 r2 hvx [] O bu pl1 sg1 _ _ _ _ _ hS hO (by rw [List.length_nil]; omega) hO4 (fun bu2 pl2 sg2 l5 l6 l7 l8 l9 w1 w2 => ?_)
  iterate 3 refine hX ?_
  refine And.intro (fun _ => ?_) (fun h => absurd (by decide) h)
  iterate 4 refine hX ?_
  rw [List.length_append, nsub (by omega), Nat.add_sub_cancel_left]
  exact hq bu2 pl2 sg2 _ w1 ⟨w2.1.1, w2.2.1⟩
end MM
