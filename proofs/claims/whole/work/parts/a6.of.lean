/-! The model: what is told of a side. -/
theorem row_drop {E : List (List Int32)} (hg : gE E) {p : Nat} (hp : p ≤ E.flatten.length) : (rowE E).drop (9 + p) = E.flatten.drop p ++ List.replicate (40 - E.flatten.length) 0 := by
  have hl : (padI 8 (E.map fun t => nI t.length)).length = 8 := padI_len (by rw [List.length_map]; exact hg.1.1)
  rw [show 9 + p = (8 + p) + 1 by omega, rowE, List.drop_succ_cons, List.drop_append, hl, List.drop_eq_nil_of_le (by omega), List.nil_append, show 8 + p - 8 = p by omega, padI, List.drop_append, show p - E.flatten.length = 0 by omega]
  rfl
theorem row_side {E : List (List Int32)} (hg : gE E) {k : Nat} (hk : k < E.length) : ∃ xr, (rowE E).drop (9 + pre E k) = E.getD k [] ++ xr ∧ okF (E.getD k []) 1 = true ∧ pre E k + (E.getD k []).length ≤ 40 := by
  obtain ⟨xr, h1, h2⟩ := side_at hg.2.1 hk
  refine ⟨xr ++ List.replicate (40 - E.flatten.length) 0, by rw [row_drop hg (pre_leF E k), h1, List.append_assoc], h2, ?_⟩
  rw [← pre_succ]
  have := pre_leF E (k + 1)
  have := hg.1.2.1
  omega
/-- the deepest of the letters, by the stack of open ones -/
def dpl : List Int32 → List Nat → Nat → Nat
  | [], _, d => d
  | c :: y, s, d => dpl y (if arN c = 0 then (wEnd s).2 else arN c :: s) (max d (s.length + 1))
theorem dpf_app {x r : List Int32} (h : okF x 1 = true) : dpf (x ++ r) = dpf x := by
  obtain ⟨e1, e2⟩ := ev_app (fun _ (as : List Nat) => 1 + as.foldr max 0) x r 1 h
  rw [dpf, dpf, e1]
  cases hx : ev (fun _ (as : List Nat) => 1 + as.foldr max 0) x with
  | nil => rw [hx] at e2; simp at e2
  | cons v l => rfl
theorem dpl_term : ∀ (m : Nat) (x : List Int32), x.length ≤ m → okF x 1 = true → ∀ (y : List Int32) (s : List Nat) (d : Nat), dpl (x ++ y) s d = dpl y (wEnd s).2 (max d (s.length + dpf x))
  | 0, x, hm, h, y, s, d => by have := okF_pos h (by omega); omega
  | m + 1, [], hm, h, y, s, d => by cases h
  | m + 1, c :: r, hm, h, y, s, d => by
    have hr : okF r (0 + arN c) = true := h
    rw [Nat.zero_add] at hr
    rw [List.length_cons] at hm
    rw [List.cons_append, dpl]
    rcases (show arN c = 0 ∨ arN c = 1 ∨ arN c = 2 by have := arN_le c; omega) with ha | ha | ha
    · rw [ha] at hr
      have : r = [] := by
        cases r with
        | nil => rfl
        | cons _ _ => cases hr
      subst this
      rw [if_pos ha, dpf_0 ha]
      rfl
    · rw [if_neg (by omega), ha]
      rw [ha] at hr
      rw [dpl_term m r (by omega) hr y (1 :: s) _, dpf_1 ha (okF_pos hr (by omega)), List.length_cons]
      have e : (wEnd (1 :: s)).2 = (wEnd s).2 := rfl
      rw [e]
      congr 1
      omega
    · rw [if_neg (by omega), ha]
      rw [ha] at hr
      have h1 := okF_take r 1 1 hr
      have h2 := okF_drop r 1 1 hr
      have hle := tlen_le r 1
      have hp2 := okF_pos h2 (by omega)
      rw [List.length_drop] at hp2
      have er : r = r.take (tlen r 1) ++ r.drop (tlen r 1) := (List.take_append_drop _ _).symm
      have ed : dpf r = dpf (r.take (tlen r 1)) := by conv => lhs; rw [er]
                                                      exact dpf_app h1
      rw [dpf_2 ha (by omega) (by omega), ed]
      conv => lhs; rw [er]
      rw [List.append_assoc, dpl_term m _ (by rw [List.length_take]; omega) h1, dpl_term m _ (by rw [List.length_drop]; omega) h2]
      have e : (wEnd (wEnd (2 :: s)).2).2 = (wEnd s).2 := rfl
      have e2 : (wEnd (2 :: s)).2.length = s.length + 1 := rfl
      rw [e, e2, List.length_cons]
      congr 1
      omega
theorem stk_end : ∀ (s : List Nat), (∀ p ∈ s, 1 ≤ p ∧ p ≤ 2) → ∀ p ∈ (wEnd s).2, 1 ≤ p ∧ p ≤ 2
  | [], h, p, hp => by simp [wEnd] at hp
  | q :: s, h, p, hp => by
    rw [wEnd] at hp
    have hq := h q List.mem_cons_self
    split at hp
    · rcases List.mem_cons.mp hp with rfl | hp
      · omega
      · exact h p (List.mem_cons_of_mem _ hp)
    · exact stk_end s (fun r hr => h r (List.mem_cons_of_mem _ hr)) p hp
section MG
variable {sc : List Int32} {X : pX} {B : pB} {Q : pQ} {nw fr pa rf tx bo ss op wr f1 f2 ch sd pk sv sz hpz pl sg bu : List Int32} {st ln ai fi dp wm pm sm vm wt : Int32} {hsh : Int64}
theorem m_flexIn_loop (hX : Cl sc X) (hB : 2 ≤ B.1) (hn : nw.length = 49) {a m : Nat} (ham : a + m ≤ 49) : ∀ (r j : Nat), j + r = m → ∀ (s : Int32), Q (some (.int (((nw.drop (a + j)).take r).foldl flS s))) (MW nw fr pa st rf tx ln bo ss ai fi op dp wr wm f1 f2 pm ch sd sm pk sv sz vm hpz pl sg wt bu hsh) → X B 145 5 [some (.ref 0), some (.int (nI a)), some (.int (nI m)), some (.int s), some (.int (nI (a + j)))] [] (MW nw fr pa st rf tx ln bo ss ai fi op dp wr wm f1 f2 pm ch sd sm pk sv sz vm hpz pl sg wt bu hsh) Q := by
  intro r
  induction r with
  | zero =>
    intro j hj s hq
    iterate 5 refine hX ?_
    rw [nadd]
    refine And.intro (fun _ => ?_) (fun h1 => absurd ((nle (by omega) (by omega)).mpr (by omega)) h1)
    iterate 2 refine hX ?_
    simp only [List.take_zero, List.foldl_nil] at hq
    exact hq
  | succ r ih =>
    intro j hj s hq
    rw [drop_cons (by omega), List.take_succ_cons, List.foldl_cons] at hq
    iterate 5 refine hX ?_
    rw [nadd]
    refine And.intro (fun h1 => absurd ((nle (by omega) (by omega)).mp h1) (by omega)) (fun _ => ?_)
    iterate 5 refine hX ?_
    refine And.intro (vp_in_nI (by omega) (by omega)) ?_
    rw [nI_clamp (by omega)]
    generalize hc : nw.getD (a + j) 0 = c at hq
    refine hX (cP [] [.int c] [] (some (.int (fxI c))) [.int (fxI c), .int s] (by omega) rfl rfl rfl rfl (fun Q' hQ' => m_isFlex hX (by show 1 ≤ B.1 - 1; omega) hQ') ?_)
    rcases fxI_or c with hf | hf
    · rw [hf]
      refine hX (And.intro (fun _ => ?_) (fun h1 => absurd rfl h1))
      rw [flS, if_neg (by rw [hf]; decide)] at hq
      iterate 5 refine hX ?_
      rw [show nI (a + j) + 1 = nI (a + (j + 1)) from (nI_succ (a + j)).symm, Int32.or_zero]
      exact ih (j + 1) (by omega) s hq
    · rw [hf]
      refine hX (And.intro (fun h1 => absurd h1 (by decide)) (fun _ => ?_))
      rw [flS, if_pos hf] at hq
      iterate 5 refine hX ?_
      refine And.intro (vp_in_nI (by omega) (by omega)) ?_
      rw [nI_clamp (by omega), hc]
      iterate 8 refine hX ?_
      rw [show nI (a + j) + 1 = nI (a + (j + 1)) from (nI_succ (a + j)).symm]
      exact ih (j + 1) (by omega) _ hq
theorem m_flexIn (hX : Cl sc X) (hB : 2 ≤ B.1) (hn : nw.length = 49) {a m : Nat} (ham : a + m ≤ 49) (hq : Q (some (.int (((nw.drop a).take m).foldl flS 0))) (MW nw fr pa st rf tx ln bo ss ai fi op dp wr wm f1 f2 pm ch sd sm pk sv sz vm hpz pl sg wt bu hsh)) : X B 145 0 [some (.ref 0), some (.int (nI a)), some (.int (nI m)), none, none] [] (MW nw fr pa st rf tx ln bo ss ai fi op dp wr wm f1 f2 pm ch sd sm pk sv sz vm hpz pl sg wt bu hsh) Q := by
  iterate 4 refine hX ?_
  exact m_flexIn_loop hX hB hn ham m 0 (by omega) 0 hq
theorem m_ends_loop (hX : Cl sc X) : ∀ (s : List Nat) (op : List Int32) (i0 : Int32) (l2 : Option Value), i0 = (if s = [] then 0 else 1) → (∀ p ∈ s, 1 ≤ p ∧ p ≤ 2) → stQ s op → (∀ op', stQ (wEnd s).2 op' → Q none (MW nw fr pa st rf tx ln bo ss ai fi op' (nI (wEnd s).2.length) wr wm f1 f2 pm ch sd sm pk sv sz vm hpz pl sg wt bu hsh)) → X B 147 13 [some (.ref 0), some (.int i0), l2] [] (MW nw fr pa st rf tx ln bo ss ai fi op (nI s.length) wr wm f1 f2 pm ch sd sm pk sv sz vm hpz pl sg wt bu hsh) Q := by
  intro s
  induction s with
  | nil =>
    intro op i0 l2 h0 hs hS hq
    subst h0
    iterate 2 refine hX ?_
    refine And.intro (fun _ => ?_) (fun h => absurd rfl h)
    refine hX ?_
    exact hq op hS
  | cons p s ih =>
    intro op i0 l2 h0 hs hS hq
    rw [if_neg (by simp)] at h0
    subst h0
    obtain ⟨t1, t2, t3⟩ := stQ_top hS
    have hp := hs p List.mem_cons_self
    have ho := hS.1
    iterate 2 refine hX ?_
    refine And.intro (fun h => absurd h (by decide)) (fun _ => ?_)
    iterate 8 refine hX ?_
    rw [List.length_cons, nI_pred]
    refine And.intro (vp_in_nI (by omega) (by omega)) ?_
    rw [nI_clamp (by omega), t1]
    iterate 3 refine hX ?_
    rw [show nI p - 1 = nI (p - 1) from nsub (b := 1) (by omega)]
    refine And.intro (vp_in_nI (by omega) (by omega)) ?_
    rw [nI_clamp (by omega)]
    iterate 7 refine hX ?_
    rw [nI_pred]
    refine And.intro (vp_in_nI (by rw [List.length_set]; omega) (by rw [List.length_set]; omega)) ?_
    rw [nI_clamp (by omega), getD_set_eq (by omega)]
    refine hX ?_
    by_cases hp1 : 1 < p
    · refine And.intro (fun h => absurd ((neq (b := 0) (by omega) (by omega)).mp h) (by omega)) (fun _ => ?_)
      iterate 7 refine hX ?_
      refine And.intro (fun _ => ?_) (fun h => absurd rfl h)
      iterate 5 refine hX ?_
      refine And.intro (fun _ => ?_) (fun h => absurd rfl h)
      iterate 5 refine hX ?_
      refine And.intro (fun _ => ?_) (fun h => absurd rfl h)
      refine hX ?_
      rw [wEnd, if_pos hp1] at hq
      rw [show nI (s.length + 1) - 0 = nI (s.length + 1) from nsub (b := 0) (by omega)]
      exact hq _ (stQ_push t2 t3)
    · refine And.intro (fun _ => ?_) (fun h => absurd (by rw [show p - 1 = 0 by omega]; rfl) h)
      iterate 8 refine hX ?_
      refine And.intro (fun h => absurd h (by decide)) (fun _ => ?_)
      iterate 6 refine hX ?_
      rw [nI_pred]
      refine And.intro (fun h => absurd h (by decide)) (fun _ => ?_)
      rw [wEnd, if_neg hp1] at hq
      have hst2 : stQ s (op.set s.length (nI (p - 1))) := (stQ_top (stQ_push (p := p - 1) t2 t3)).2.1
      have hk := ih (op.set s.length (nI (p - 1))) _ (some (.int 1)) rfl (fun r hr => hs r (List.mem_cons_of_mem _ hr)) hst2 hq
      iterate 3 refine hX ?_
      cases s with
      | nil =>
        refine And.intro (fun _ => ?_) (fun h => absurd (by decide) h)
        iterate 3 refine hX ?_
        exact hk
      | cons q s =>
        rw [if_neg (by simp)] at hk
        refine And.intro (fun h => absurd ((nle (b := 0) (by omega) (by omega)).mp h) (by simp)) (fun _ => ?_)
        iterate 4 refine hX ?_
        exact hk
theorem m_ends (hX : Cl sc X) {s : List Nat} (hs : ∀ p ∈ s, 1 ≤ p ∧ p ≤ 2) (hS : stQ s op) (hq : ∀ op', stQ (wEnd s).2 op' → Q none (MW nw fr pa st rf tx ln bo ss ai fi op' (nI (wEnd s).2.length) wr wm f1 f2 pm ch sd sm pk sv sz vm hpz pl sg wt bu hsh)) : X B 147 0 [some (.ref 0), none, none] [] (MW nw fr pa st rf tx ln bo ss ai fi op (nI s.length) wr wm f1 f2 pm ch sd sm pk sv sz vm hpz pl sg wt bu hsh) Q := by
  have hk := m_ends_loop (B := B) hX s op _ none rfl hs hS hq
  have h41 := hS.2.1
  iterate 3 refine hX ?_
  cases s with
  | nil =>
    refine And.intro (fun _ => ?_) (fun h => absurd (by decide) h)
    iterate 2 refine hX ?_
    exact hk
  | cons q s =>
    rw [if_neg (by simp)] at hk
    refine And.intro (fun h => absurd ((nle (b := 0) (by omega) (by omega)).mp h) (by simp)) (fun _ => ?_)
    iterate 3 refine hX ?_
    exact hk
theorem m_deepOf_loop (hX : Cl sc X) (hB : 3 ≤ B.1) (hn : nw.length = 49) {a m : Nat} (ham : a + m ≤ 49) : ∀ (y xr : List Int32) (p : Nat) (s : List Nat) (d : Nat) (op : List Int32) (l5 : Option Value), nw.drop p = y ++ xr → p + y.length = a + m → s.length + y.length ≤ 41 → d ≤ 100 → (∀ c ∈ y, ¬ kdI c = -1) → (∀ p ∈ s, 1 ≤ p ∧ p ≤ 2) → stQ s op → (∀ op' dp', op'.length = 41 → Q (some (.int (nI (dpl y s d)))) (MW nw fr pa st rf tx ln bo ss ai fi op' dp' wr wm f1 f2 pm ch sd sm pk sv sz vm hpz pl sg wt bu hsh)) → X B 146 10 [some (.ref 0), some (.int (nI a)), some (.int (nI m)), some (.int (nI d)), some (.int (nI p)), l5] [] (MW nw fr pa st rf tx ln bo ss ai fi op (nI s.length) wr wm f1 f2 pm ch sd sm pk sv sz vm hpz pl sg wt bu hsh) Q := by
  intro y
  induction y with
  | nil =>
    intro xr p s d op l5 h1 h2 h3 h4 h5 h6 hS hq
    iterate 5 refine hX ?_
    rw [nadd]
    simp only [List.length_nil, Nat.add_zero] at h2
    refine And.intro (fun _ => ?_) (fun h => absurd ((nle (by omega) (by omega)).mpr (by omega)) h)
    iterate 2 refine hX ?_
    exact hq op _ hS.1
  | cons c y ih =>
    intro xr p s d op l5 h1 h2 h3 h4 h5 h6 hS hq
    obtain ⟨k1, k2, k3⟩ := drop_head h1
    rw [List.length_cons] at h2 h3
    have hkc := h5 c List.mem_cons_self
    have har := arN_le c
    iterate 5 refine hX ?_
    rw [nadd]
    refine And.intro (fun h => absurd ((nle (by omega) (by omega)).mp h) (by omega)) (fun _ => ?_)
    have hmx : ∀ l5 : Option Value, X B 146 39 [some (.ref 0), some (.int (nI a)), some (.int (nI m)), some (.int (nI (max d (s.length + 1)))), some (.int (nI p)), l5] [] (MW nw fr pa st rf tx ln bo ss ai fi op (nI s.length) wr wm f1 f2 pm ch sd sm pk sv sz vm hpz pl sg wt bu hsh) Q := by
      intro l5
      iterate 4 refine hX ?_
      refine And.intro (vp_in_nI (by omega) (by omega)) ?_
      rw [nI_clamp (by omega), k2]
      refine hX (cP [] [.int c] [] (some (.int (prI c))) [.int (prI c)] (by omega) rfl rfl rfl rfl (fun Q' hQ' => m_partsOf hX (by show 2 ≤ B.1 - 1; omega) hQ') ?_)
      rw [prI_let hkc]
      iterate 3 refine hX ?_
      rw [dpl] at hq
      by_cases h0 : arN c = 0
      · rw [if_pos h0] at hq
        rw [h0]
        refine And.intro (fun _ => ?_) (fun h => absurd (by decide) h)
        iterate 2 refine hX ?_
        refine And.intro trivial (cMw [.ref 0] (fun o : List Int32 => stQ (wEnd s).2 o) (fun _ => none) (fun o => (MW nw fr pa st rf tx ln bo ss ai fi o (nI (wEnd s).2.length) wr wm f1 f2 pm ch sd sm pk sv sz vm hpz pl sg wt bu hsh)) (by omega) rfl rfl (fun _ => rfl) (fun _ => rfl) (fun _ => rfl) (fun Q' hQ' => m_ends hX h6 hS (fun o h => hQ' o h)) (fun o hO => ?_))
        iterate 2 refine hX ?_
        rw [show nI p + 1 = nI (p + 1) from (nI_succ p).symm]
        have hl := (wEnd_sum s (fun p hp => (h6 p hp).1)).2.2
        exact ih xr (p + 1) _ _ o _ k3 (by omega) (by omega) (by omega) (fun c hc => h5 c (List.mem_cons_of_mem _ hc)) (stk_end s h6) hO hq
      · rw [if_neg h0] at hq
        refine And.intro (fun h => absurd ((nle (b := 0) (by omega) (by omega)).mp h) (by omega)) (fun _ => ?_)
        iterate 6 refine hX ?_
        refine And.intro (vp_in_nI (by rw [hS.1]; omega) (by rw [hS.1]; omega)) ?_
        rw [nI_clamp (by omega)]
        iterate 9 refine hX ?_
        rw [show nI p + 1 = nI (p + 1) from (nI_succ p).symm, show nI s.length + 1 = nI (s.length + 1) from (nI_succ _).symm]
        have := ih xr (p + 1) (arN c :: s) _ (op.set s.length (nI (arN c))) (some (.int (nI (arN c)))) k3 (by omega) (by rw [List.length_cons]; omega) (by omega) (fun c hc => h5 c (List.mem_cons_of_mem _ hc)) (fun p hp => by rcases List.mem_cons.mp hp with rfl | hp; exact arN_12 h0; exact h6 p hp) (stQ_push hS (by omega)) hq
        rw [List.length_cons] at this
        exact this
    iterate 6 refine hX ?_
    rw [show nI s.length + 1 = nI (s.length + 1) from (nI_succ _).symm]
    by_cases hd : s.length + 1 ≤ d
    · refine And.intro (fun _ => ?_) (fun h => absurd ((nle (by omega) (by omega)).mpr hd) h)
      iterate 2 refine hX ?_
      have := hmx l5
      rw [Nat.max_eq_left hd] at this
      exact this
    · refine And.intro (fun h => absurd ((nle (by omega) (by omega)).mp h) hd) (fun _ => ?_)
      iterate 6 refine hX ?_
      rw [show nI s.length + 1 = nI (s.length + 1) from (nI_succ _).symm]
      have := hmx l5
      rw [Nat.max_eq_right (by omega)] at this
      exact this
theorem m_deepOf (hX : Cl sc X) (hB : 3 ≤ B.1) (hn : nw.length = 49) (ho : op.length = 41) {x xr : List Int32} {a : Nat} (h1 : nw.drop a = x ++ xr) (h2 : okF x 1 = true) (hx : a + x.length ≤ 49) (hx2 : x.length ≤ 40) (hk : ∀ c ∈ x, ¬ kdI c = -1) (hq : ∀ op' dp', op'.length = 41 → Q (some (.int (nI (dpf x)))) (MW nw fr pa st rf tx ln bo ss ai fi op' dp' wr wm f1 f2 pm ch sd sm pk sv sz vm hpz pl sg wt bu hsh)) : X B 146 0 [some (.ref 0), some (.int (nI a)), some (.int (nI x.length)), none, none, none] [] (MW nw fr pa st rf tx ln bo ss ai fi op dp wr wm f1 f2 pm ch sd sm pk sv sz vm hpz pl sg wt bu hsh) Q := by
  iterate 7 refine hX ?_
  have e : dpl x [] 0 = dpf x := by
    have := dpl_term x.length x (Nat.le_refl _) h2 [] [] 0
    rw [List.append_nil] at this
    rw [this]
    simp [dpl]
  exact m_deepOf_loop hX hB hn (a := a) (m := x.length) hx x xr a [] 0 op none h1 rfl (by simp; omega) (by omega) hk (fun p hp => by simp at hp) (stQ_nil ho) (by rw [e]; exact hq)
theorem flS_side (x : List Int32) : x.foldl flS 0 = nI (flb x 0) := flS_eq x 0
theorem m_ofSide (hX : Cl sc X) (hB : 4 ≤ B.1) (ho : op.length = 41) {E : List (List Int32)} (hg : gE E) {i j w : Nat} (hi : i < E.length / 2) (hj : j < 2) (hw : w < 4) (hq : ∀ op' dp', op'.length = 41 → Q (some (.int (sfN (E.getD (2 * i + j) []) w))) (MW (rowE E) fr pa st rf tx ln bo ss ai fi op' dp' wr wm f1 f2 pm ch sd sm pk sv sz vm hpz pl sg wt bu hsh)) : X B 148 0 [some (.ref 0), some (.int (nI i)), some (.int (nI j)), some (.int (nI w)), none, none] [] (MW (rowE E) fr pa st rf tx ln bo ss ai fi op dp wr wm f1 f2 pm ch sd sm pk sv sz vm hpz pl sg wt bu hsh) Q := by
  have hl := rowE_len hg
  have h8 := hg.1.1
  obtain ⟨xr, r1, r2, r3⟩ := row_side hg (k := 2 * i + j) (by omega)
  have hkd : ∀ c ∈ E.getD (2 * i + j) [], ¬ kdI c = -1 := fun c hc => hg.2.2 c (List.mem_flatten.mpr ⟨_, getD_mem (by omega), hc⟩)
  iterate 4 refine hX ?_
  refine c_begin2 hX (by omega) hg (by omega) rfl ?_
  iterate 5 refine hX ?_
  refine c_nodes hX (by omega) hg (by omega) rfl ?_
  generalize hx : E.getD (2 * i + j) [] = x at hq r1 r2 r3 hkd
  iterate 3 refine hX ?_
  rcases (show w = 0 ∨ w = 1 ∨ w = 2 ∨ w = 3 by omega) with rfl | rfl | rfl | rfl
  · refine And.intro (fun _ => ?_) (fun h => absurd rfl h)
    iterate 3 refine hX ?_
    exact hq op dp ho
  · refine And.intro (fun h => absurd h (by decide)) (fun _ => ?_)
    iterate 3 refine hX ?_
    refine And.intro (fun _ => ?_) (fun h => absurd rfl h)
    iterate 4 refine hX ?_
    refine And.intro trivial (cPw [.ref 0, .int (nI (9 + pre E (2 * i + j))), .int (nI x.length)] (some (.int (nI (flb x 0)))) (by omega) rfl rfl rfl (fun Q' hQ' => m_flexIn hX (by show 2 ≤ B.1 - 1; omega) hl (by omega) (by rw [r1, List.take_left, flS_side]; exact hQ')) ?_)
    iterate 2 refine hX ?_
    exact hq op dp ho
  · refine And.intro (fun h => absurd h (by decide)) (fun _ => ?_)
    iterate 3 refine hX ?_
    refine And.intro (fun h => absurd h (by decide)) (fun _ => ?_)
    iterate 3 refine hX ?_
    refine And.intro (fun _ => ?_) (fun h => absurd rfl h)
    iterate 4 refine hX ?_
    refine And.intro trivial (cMw [.ref 0, .int (nI (9 + pre E (2 * i + j))), .int (nI x.length)] (fun u : List Int32 × Int32 => u.1.length = 41) (fun _ => some (.int (nI (dpf x)))) (fun u => (MW (rowE E) fr pa st rf tx ln bo ss ai fi u.1 u.2 wr wm f1 f2 pm ch sd sm pk sv sz vm hpz pl sg wt bu hsh)) (by omega) rfl rfl (fun _ => rfl) (fun _ => rfl) (fun _ => rfl) (fun Q' hQ' => m_deepOf hX (by show 3 ≤ B.1 - 1; omega) hl ho r1 r2 (by omega) (by omega) hkd (fun o d h => hQ' (o, d) h)) (fun u hu => ?_))
    iterate 2 refine hX ?_
    exact hq u.1 u.2 hu
  · refine And.intro (fun h => absurd h (by decide)) (fun _ => ?_)
    iterate 3 refine hX ?_
    refine And.intro (fun h => absurd h (by decide)) (fun _ => ?_)
    iterate 3 refine hX ?_
    refine And.intro (fun h => absurd h (by decide)) (fun _ => ?_)
    have hxp := okF_pos r2 (by omega)
    iterate 4 refine hX ?_
    refine And.intro (vp_in_nI (by omega) (by omega)) ?_
    rw [nI_clamp (by omega)]
    have e : (rowE E).getD (9 + pre E (2 * i + j)) 0 = x.getD 0 0 := by
      cases x with
      | nil => simp at hxp
      | cons c y => exact (drop_head r1).2.1
    rw [e]
    refine hX ?_
    exact hq op dp ho
theorem m_of (hX : Cl sc X) (hB : 5 ≤ B.1) (ho : op.length = 41) (hr3 : rf.length = 3) {E : List (List Int32)} (hg : gE E) {e d w : Int32} (hq0 : ¬ (hsI e (E.length / 2) = 1 ∧ (d = 0 ∨ d = 1) ∧ ¬ w < 0 ∧ w < 4) → Q (some (.int (-2))) (MW (rowE E) fr pa st (bmp rf 0) tx ln bo ss ai fi op dp wr wm f1 f2 pm ch sd sm pk sv sz vm hpz pl sg wt bu hsh)) (hq1 : hsI e (E.length / 2) = 1 ∧ (d = 0 ∨ d = 1) ∧ ¬ w < 0 ∧ w < 4 → ∀ op' dp', op'.length = 41 → Q (some (.int (sfN (E.getD (2 * e.toNatClampNeg + d.toNatClampNeg) []) w.toNatClampNeg))) (MW (rowE E) fr pa st rf tx ln bo ss ai fi op' dp' wr wm f1 f2 pm ch sd sm pk sv sz vm hpz pl sg wt bu hsh)) : X B 149 0 [some (.ref 0), some (.int e), some (.int d), some (.int w)] [] (MW (rowE E) fr pa st rf tx ln bo ss ai fi op dp wr wm f1 f2 pm ch sd sm pk sv sz vm hpz pl sg wt bu hsh) Q := by
  have h8 := hg.1.1
  have bad : ¬ (hsI e (E.length / 2) = 1 ∧ (d = 0 ∨ d = 1) ∧ ¬ w < 0 ∧ w < 4) → X B 149 34 [some (.ref 0), some (.int e), some (.int d), some (.int w)] [] (MW (rowE E) fr pa st rf tx ln bo ss ai fi op dp wr wm f1 f2 pm ch sd sm pk sv sz vm hpz pl sg wt bu hsh) Q := by
    intro h
    iterate 2 refine hX ?_
    refine c_mbad hX (by omega) hr3 ?_
    refine hX ?_
    exact hq0 h
  iterate 3 refine hX ?_
  refine c_isEq hX (by omega) hg ?_
  rcases hsI_or e (E.length / 2) with he | he
  · rw [he]
    exact hX (And.intro (fun _ => bad (fun q => by rw [he] at q; exact absurd q.1 (by decide))) (fun h => absurd rfl h))
  rw [he]
  refine hX (And.intro (fun h => absurd h (by decide)) (fun _ => ?_))
  iterate 2 refine hX ?_
  refine cP [] [.int d] [] (some (.int (if d = 0 ∨ d = 1 then 1 else 0))) [.int (if d = 0 ∨ d = 1 then 1 else 0)] (by omega) rfl rfl rfl rfl (fun Q' hQ' => m_isSide hX hQ') ?_
  by_cases hd : d = 0 ∨ d = 1
  case neg =>
    rw [if_neg hd]
    exact hX (And.intro (fun _ => bad (fun q => hd q.2.1)) (fun h => absurd rfl h))
  rw [if_pos hd]
  refine hX (And.intro (fun h => absurd h (by decide)) (fun _ => ?_))
  iterate 4 refine hX ?_
  refine cP [] [.int w, .int 0, .int 3] [] (some (.int (wiI w 0 3))) [.int (wiI w 0 3)] (by omega) rfl rfl rfl rfl (fun Q' hQ' => m_within hX hQ') ?_
  have hw3 : wiI w 0 3 = hsI w 4 := wi_hs (e := w) (n := 4) (by omega)
  rw [hw3]
  by_cases hw : ¬ w < 0 ∧ w < 4
  case neg =>
    rw [show hsI w 4 = 0 from if_neg hw]
    exact hX (And.intro (fun _ => bad (fun q => hw q.2.2)) (fun h => absurd rfl h))
  have hw1 : hsI w 4 = 1 := if_pos hw
  rw [hw1]
  refine hX (And.intro (fun h => absurd h (by decide)) (fun _ => ?_))
  have hq2 := hq1 ⟨he, hd, hw⟩
  obtain ⟨i, rfl, hi, hic⟩ := hsI_is (by omega) he
  obtain ⟨k, rfl, hk, hkc⟩ := hsI_is (by omega) hw1
  obtain ⟨dj, dk⟩ := d_nat hd
  rw [hic, hkc] at hq2
  generalize d.toNatClampNeg = j at dj dk hq2
  subst dj
  iterate 5 refine hX ?_
  refine And.intro trivial (cMw [.ref 0, .int (nI i), .int (nI j), .int (nI k)] (fun u : List Int32 × Int32 => u.1.length = 41) (fun _ => some (.int (sfN (E.getD (2 * i + j) []) k))) (fun u => (MW (rowE E) fr pa st rf tx ln bo ss ai fi u.1 u.2 wr wm f1 f2 pm ch sd sm pk sv sz vm hpz pl sg wt bu hsh)) (by omega) rfl rfl (fun _ => rfl) (fun _ => rfl) (fun _ => rfl) (fun Q' hQ' => m_ofSide hX (by show 4 ≤ B.1 - 1; omega) ho hg hi dk hk (fun o d h => hQ' (o, d) h)) (fun u hu => ?_))
  iterate 2 refine hX ?_
  exact hq2 u.1 u.2 hu
end MG
