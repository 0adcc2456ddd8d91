/-! The model: an equation as it is written. -/
def wqR (o wr : List Int32) : Prop := wr.length = 200 ∧ o.length ≤ 200 ∧ wr.take o.length = o
theorem wqR_push {o wr : List Int32} (h : wqR o wr) (ho : o.length < 200) (c : Int32) : wqR (o ++ [c]) (wr.set o.length c) := by
  obtain ⟨h1, h2, h3⟩ := h
  refine ⟨by rw [List.length_set]; exact h1, by rw [List.length_append, List.length_singleton]; omega, ?_⟩
  rw [List.length_append, List.length_singleton, take_set (by omega), h3]
theorem wqR_at {o wr : List Int32} (h : wqR o wr) {k : Nat} (hk : k < o.length) : wr.getD k 0 = o.getD k 0 := by
  rw [← getD_take (n := o.length) hk, h.2.2]
theorem wqR_nil {wr : List Int32} (h : wr.length = 200) : wqR [] wr := ⟨h, by simp, by simp⟩
theorem wS_len {x : List Int32} (h : okF x 1 = true) : (wS x []).1.length ≤ 3 * x.length := by
  have h1 := (wS_sum x [] (fun p hp => by simp at hp)).1
  have h2 := okF_sum x 1 h
  simp only [List.sum_nil] at h1
  omega
section MH
variable {sc : List Int32} {X : pX} {B : pB} {Q : pQ} {nw fr pa rf tx bo ss op wr f1 f2 ch sd pk sv sz hpz pl sg bu : List Int32} {st ln ai fi dp wm pm sm vm wt : Int32} {hsh : Int64}
theorem m_writes (hX : Cl sc X) {o : List Int32} (hR : wqR o wr) (ho : o.length < 200) {c : Int32} (hq : Q none (MW nw fr pa st rf tx ln bo ss ai fi op dp (wr.set o.length c) (nI (o ++ [c]).length) f1 f2 pm ch sd sm pk sv sz vm hpz pl sg wt bu hsh)) : X B 150 0 [some (.ref 0), some (.int c)] [] (MW nw fr pa st rf tx ln bo ss ai fi op dp wr (nI o.length) f1 f2 pm ch sd sm pk sv sz vm hpz pl sg wt bu hsh) Q := by
  iterate 6 refine hX ?_
  refine And.intro (vp_in_nI (by rw [hR.1]; omega) (by rw [hR.1]; omega)) ?_
  rw [nI_clamp (by omega)]
  iterate 7 refine hX ?_
  rw [List.length_append, List.length_singleton, nI_succ] at hq
  exact hq
theorem c_writes (hX : Cl sc X) (hB : 1 ≤ B.1) {me n : Nat} {ls : pL} {o : List Int32} (hR : wqR o wr) (ho : o.length < 200) {c : Int32} (hq : ∀ wr', wqR (o ++ [c]) wr' → X B me n ls [] (MW nw fr pa st rf tx ln bo ss ai fi op dp wr' (nI (o ++ [c]).length) f1 f2 pm ch sd sm pk sv sz vm hpz pl sg wt bu hsh) Q) : oCallV 150 11 2 2 n X B me ls [.int c, .ref 0] (MW nw fr pa st rf tx ln bo ss ai fi op dp wr (nI o.length) f1 f2 pm ch sd sm pk sv sz vm hpz pl sg wt bu hsh) Q :=
  And.intro trivial (cDw [.ref 0, .int c] none (MW nw fr pa st rf tx ln bo ss ai fi op dp (wr.set o.length c) (nI (o ++ [c]).length) f1 f2 pm ch sd sm pk sv sz vm hpz pl sg wt bu hsh) hB rfl rfl rfl rfl rfl (fun Q' hQ' => m_writes hX hR ho hQ') (hq _ (wqR_push hR ho c)))
theorem m_wl_loop (hX : Cl sc X) (hB : 1 ≤ B.1) {l1 : Option Value} {z2 : Int32} : ∀ (s : List Nat) (o wr op : List Int32) (i0 : Int32) (l4 : Option Value), i0 = (if s = [] then 0 else 1) → (∀ p ∈ s, 1 ≤ p ∧ p ≤ 2) → stQ s op → wqR o wr → o.length + (wEnd s).1.length ≤ 200 → (∀ wr' op', wqR (o ++ (wEnd s).1) wr' → stQ (wEnd s).2 op' → Q none (MW nw fr pa st rf tx ln bo ss ai fi op' (nI (wEnd s).2.length) wr' (nI (o ++ (wEnd s).1).length) f1 f2 pm ch sd sm pk sv sz vm hpz pl sg wt bu hsh)) → X B 151 54 [some (.ref 0), l1, some (.int z2), some (.int i0), l4] [] (MW nw fr pa st rf tx ln bo ss ai fi op (nI s.length) wr (nI o.length) f1 f2 pm ch sd sm pk sv sz vm hpz pl sg wt bu hsh) Q := by
  intro s
  induction s with
  | nil =>
    intro o wr op i0 l4 h0 hs hS hR hlen hq
    subst h0
    iterate 2 refine hX ?_
    refine And.intro (fun _ => ?_) (fun h => absurd rfl h)
    refine hX ?_
    have := hq wr op (by rw [wEnd, List.append_nil]; exact hR) hS
    rw [wEnd, List.append_nil] at this
    exact this
  | cons p s ih =>
    intro o wr op i0 l4 h0 hs hS hR hlen hq
    rw [if_neg (by simp)] at h0
    subst h0
    obtain ⟨t1, t2, t3⟩ := stQ_top hS
    have hp := hs p List.mem_cons_self
    have ho := hS.1
    iterate 2 refine hX ?_
    refine And.intro (fun h => absurd h (by decide)) (fun _ => ?_)
    iterate 8 refine hX ?_
    rw [List.length_cons, nI_pred]
    refine And.intro (vp_in_nI (by omega) (by omega)) ?_
    rw [nI_clamp (by omega), t1]
    iterate 3 refine hX ?_
    rw [show nI p - 1 = nI (p - 1) from nsub (b := 1) (by omega)]
    refine And.intro (vp_in_nI (by omega) (by omega)) ?_
    rw [nI_clamp (by omega)]
    iterate 7 refine hX ?_
    rw [nI_pred]
    refine And.intro (vp_in_nI (by rw [List.length_set]; omega) (by rw [List.length_set]; omega)) ?_
    rw [nI_clamp (by omega), getD_set_eq (by omega)]
    refine hX ?_
    by_cases hp1 : 1 < p
    · rw [wEnd, if_pos hp1] at hq hlen
      refine And.intro (fun h => absurd ((neq (b := 0) (by omega) (by omega)).mp h) (by omega)) (fun _ => ?_)
      iterate 5 refine hX ?_
      refine And.intro (fun _ => ?_) (fun h => absurd rfl h)
      iterate 2 refine hX ?_
      refine c_writes hX hB hR (by simp at hlen; omega) (fun wr' hR' => ?_)
      iterate 5 refine hX ?_
      refine And.intro (fun _ => ?_) (fun h => absurd rfl h)
      iterate 5 refine hX ?_
      refine And.intro (fun _ => ?_) (fun h => absurd rfl h)
      iterate 5 refine hX ?_
      refine And.intro (fun _ => ?_) (fun h => absurd rfl h)
      refine hX ?_
      rw [show nI (s.length + 1) - 0 = nI (s.length + 1) from nsub (b := 0) (by omega)]
      exact hq wr' _ hR' (stQ_push t2 t3)
    · rw [wEnd, if_neg hp1] at hq hlen
      rw [List.length_cons] at hlen
      refine And.intro (fun _ => ?_) (fun h => absurd (by rw [show p - 1 = 0 by omega]; rfl) h)
      iterate 6 refine hX ?_
      refine And.intro (fun h => absurd h (by decide)) (fun _ => ?_)
      iterate 3 refine hX ?_
      refine c_writes hX hB hR (by omega) (fun wr' hR' => ?_)
      iterate 5 refine hX ?_
      refine And.intro (fun h => absurd h (by decide)) (fun _ => ?_)
      iterate 6 refine hX ?_
      rw [nI_pred]
      refine And.intro (fun h => absurd h (by decide)) (fun _ => ?_)
      have hst2 : stQ s (op.set s.length (nI (p - 1))) := (stQ_top (stQ_push (p := p - 1) t2 t3)).2.1
      have hk := ih (o ++ [41]) wr' (op.set s.length (nI (p - 1))) _ (some (.int 1)) rfl (fun r hr => hs r (List.mem_cons_of_mem _ hr)) hst2 hR' (by rw [List.length_append, List.length_singleton]; omega) (fun wr2 op2 a b => by
        have := hq wr2 op2 (by rw [List.append_assoc] at a; exact a) b
        rw [List.append_assoc]
        exact this)
      iterate 3 refine hX ?_
      cases s with
      | nil =>
        refine And.intro (fun _ => ?_) (fun h => absurd (by decide) h)
        iterate 3 refine hX ?_
        exact hk
      | cons q s =>
        rw [if_neg (by simp)] at hk
        refine And.intro (fun h => absurd ((nle (b := 0) (by omega) (by omega)).mp h) (by simp)) (fun _ => ?_)
        iterate 4 refine hX ?_
        exact hk
theorem m_writesLetter (hX : Cl sc X) (hB : 3 ≤ B.1) {s : List Nat} {o : List Int32} {c : Int32} (hc : prI c = nI (arN c)) (hs : ∀ p ∈ s, 1 ≤ p ∧ p ≤ 2) (hS : stQ s op) (hsl : s.length < 41) (hR : wqR o wr) (hlen : o.length + (wL s c).1.length ≤ 200) (hq : ∀ wr' op', wqR (o ++ (wL s c).1) wr' → stQ (wL s c).2 op' → Q none (MW nw fr pa st rf tx ln bo ss ai fi op' (nI (wL s c).2.length) wr' (nI (o ++ (wL s c).1).length) f1 f2 pm ch sd sm pk sv sz vm hpz pl sg wt bu hsh)) : X B 151 0 [some (.ref 0), some (.int c), none, none, none] [] (MW nw fr pa st rf tx ln bo ss ai fi op (nI s.length) wr (nI o.length) f1 f2 pm ch sd sm pk sv sz vm hpz pl sg wt bu hsh) Q := by
  have har := arN_le c
  have hlen1 : o.length < 200 := by
    rw [wL] at hlen
    split at hlen <;> simp at hlen <;> omega
  iterate 3 refine hX ?_
  refine c_writes hX (by omega) hR hlen1 (fun wr' hR' => ?_)
  iterate 2 refine hX ?_
  refine (cP [] [.int c] [] (some (.int (prI c))) [.int (prI c)] (by omega) rfl rfl rfl rfl (fun Q' hQ' => m_partsOf hX (by show 2 ≤ B.1 - 1; omega) hQ') ?_)
  rw [hc]
  iterate 3 refine hX ?_
  by_cases h0 : arN c = 0
  · rw [wL, if_pos h0] at hq hlen
    dsimp only at hq hlen
    rw [h0]
    refine And.intro (fun _ => ?_) (fun h => absurd (by decide) h)
    have hk := m_wl_loop (B := B) hX (by omega) (l1 := some (.int c)) (z2 := nI 0) s (o ++ [c]) wr' op _ none rfl hs hS hR' (by rw [List.length_append, List.length_singleton]; rw [List.length_cons] at hlen; omega) (fun wr2 op2 a b => by
        have := hq wr2 op2 (by rw [List.append_assoc] at a; exact a) b
        rw [List.append_assoc]
        exact this)
    iterate 3 refine hX ?_
    cases s with
    | nil =>
      refine And.intro (fun _ => ?_) (fun h => absurd (by decide) h)
      iterate 2 refine hX ?_
      exact hk
    | cons q s =>
      rw [if_neg (by simp)] at hk
      refine And.intro (fun h => absurd ((nle (b := 0) (by omega) (by omega)).mp h) (by simp)) (fun _ => ?_)
      iterate 3 refine hX ?_
      exact hk
  · rw [wL, if_neg h0] at hq hlen
    simp only [List.length_cons, List.length_nil] at hlen
    refine And.intro (fun h => absurd ((nle (b := 0) (by omega) (by omega)).mp h) (by omega)) (fun _ => ?_)
    iterate 3 refine hX ?_
    refine c_writes hX (by omega) hR' (by rw [List.length_append, List.length_singleton]; omega) (fun wr2 hR2 => ?_)
    iterate 6 refine hX ?_
    refine And.intro (vp_in_nI (by rw [hS.1]; omega) (by rw [hS.1]; omega)) ?_
    rw [nI_clamp (by omega)]
    iterate 7 refine hX ?_
    rw [List.append_assoc] at hR2 ⊢
    have := hq wr2 _ hR2 (stQ_push hS hsl)
    rw [List.length_cons (as := s), nI_succ] at this
    exact this
theorem m_writesSide_loop (hX : Cl sc X) (hB : 4 ≤ B.1) {E : List (List Int32)} (hg : gE E) {i j a : Nat} (h8 : 2 * i + j < 8) (hx : a + (E.getD (2 * i + j) []).length ≤ 49) : ∀ (y xr : List Int32) (p : Nat) (s : List Nat) (o wr op : List Int32), (rowE E).drop p = y ++ xr → p + y.length = a + (E.getD (2 * i + j) []).length → s.length + y.length ≤ 41 → (∀ c ∈ y, ¬ kdI c = -1) → (∀ p ∈ s, 1 ≤ p ∧ p ≤ 2) → stQ s op → wqR o wr → o.length + (wS y s).1.length ≤ 200 → (∀ wr' op' dp', wqR (o ++ (wS y s).1) wr' → op'.length = 41 → Q none (MW (rowE E) fr pa st rf tx ln bo ss ai fi op' dp' wr' (nI (o ++ (wS y s).1).length) f1 f2 pm ch sd sm pk sv sz vm hpz pl sg wt bu hsh)) → X B 152 15 [some (.ref 0), some (.int (nI i)), some (.int (nI j)), some (.int (nI a)), some (.int (nI p))] [] (MW (rowE E) fr pa st rf tx ln bo ss ai fi op (nI s.length) wr (nI o.length) f1 f2 pm ch sd sm pk sv sz vm hpz pl sg wt bu hsh) Q := by
  have hl := rowE_len hg
  intro y
  induction y with
  | nil =>
    intro xr p s o wr op h1 h2 h3 h5 h6 hS hR hlen hq
    iterate 6 refine hX ?_
    refine c_nodes hX (by omega) hg h8 rfl ?_
    iterate 2 refine hX ?_
    rw [nadd]
    simp only [List.length_nil, Nat.add_zero] at h2
    refine And.intro (fun _ => ?_) (fun h => absurd ((nle (by omega) (by omega)).mpr (by omega)) h)
    refine hX ?_
    have := hq wr op (nI s.length) (by rw [wS, List.append_nil]; exact hR) hS.1
    rw [wS, List.append_nil] at this
    exact this
  | cons c y ih =>
    intro xr p s o wr op h1 h2 h3 h5 h6 hS hR hlen hq
    obtain ⟨k1, k2, k3⟩ := drop_head h1
    rw [List.length_cons] at h2 h3
    rw [wS, List.length_append] at hlen
    iterate 6 refine hX ?_
    refine c_nodes hX (by omega) hg h8 rfl ?_
    iterate 2 refine hX ?_
    rw [nadd]
    refine And.intro (fun h => absurd ((nle (by omega) (by omega)).mp h) (by omega)) (fun _ => ?_)
    iterate 5 refine hX ?_
    refine And.intro (vp_in_nI (by omega) (by omega)) ?_
    rw [nI_clamp (by omega), k2]
    refine hX ?_
    refine And.intro trivial (cMw [.ref 0, .int c] (fun u : List Int32 × List Int32 => wqR (o ++ (wL s c).1) u.1 ∧ stQ (wL s c).2 u.2) (fun _ => none) (fun u => (MW (rowE E) fr pa st rf tx ln bo ss ai fi u.2 (nI (wL s c).2.length) u.1 (nI (o ++ (wL s c).1).length) f1 f2 pm ch sd sm pk sv sz vm hpz pl sg wt bu hsh)) (by omega) rfl rfl (fun _ => rfl) (fun _ => rfl) (fun _ => rfl) (fun Q' hQ' => m_writesLetter hX (by show 3 ≤ B.1 - 1; omega) (prI_let (h5 c List.mem_cons_self)) h6 hS (by omega) hR (by omega) (fun w o a b => hQ' (w, o) ⟨a, b⟩)) (fun u hu => ?_))
    iterate 2 refine hX ?_
    rw [show nI p + 1 = nI (p + 1) from (nI_succ p).symm]
    have hwl := (wL_sum s c (fun p hp => (h6 p hp).1)).2.2
    exact ih xr (p + 1) _ _ u.1 u.2 k3 (by omega) (by omega) (fun c hc => h5 c (List.mem_cons_of_mem _ hc)) (wL_2 s c h6) hu.2 hu.1 (by rw [List.length_append]; omega) (fun wr2 op2 dp2 a b => by
      have := hq wr2 op2 dp2 (by rw [List.append_assoc] at a; exact a) b
      rw [List.append_assoc]
      exact this)
theorem m_writesSide (hX : Cl sc X) (hB : 4 ≤ B.1) {E : List (List Int32)} (hg : gE E) {i j : Nat} (hi : i < E.length / 2) (hj : j < 2) (ho : op.length = 41) {o : List Int32} (hR : wqR o wr) (hlen : o.length + (wS (E.getD (2 * i + j) []) []).1.length ≤ 200) (hq : ∀ wr' op' dp', wqR (o ++ (wS (E.getD (2 * i + j) []) []).1) wr' → op'.length = 41 → Q none (MW (rowE E) fr pa st rf tx ln bo ss ai fi op' dp' wr' (nI (o ++ (wS (E.getD (2 * i + j) []) []).1).length) f1 f2 pm ch sd sm pk sv sz vm hpz pl sg wt bu hsh)) : X B 152 0 [some (.ref 0), some (.int (nI i)), some (.int (nI j)), none, none] [] (MW (rowE E) fr pa st rf tx ln bo ss ai fi op dp wr (nI o.length) f1 f2 pm ch sd sm pk sv sz vm hpz pl sg wt bu hsh) Q := by
  have h8 := hg.1.1
  obtain ⟨xr, r1, r2, r3⟩ := row_side hg (k := 2 * i + j) (by omega)
  have hkd : ∀ c ∈ E.getD (2 * i + j) [], ¬ kdI c = -1 := fun c hc => hg.2.2 c (List.mem_flatten.mpr ⟨_, getD_mem (by omega), hc⟩)
  iterate 7 refine hX ?_
  refine c_begin2 hX (by omega) hg (by omega) rfl ?_
  iterate 3 refine hX ?_
  exact m_writesSide_loop hX hB hg (by omega) (by omega) _ xr (9 + pre E (2 * i + j)) [] o wr op r1 rfl (by rw [List.length_nil]; omega) hkd (fun p hp => by simp at hp) (stQ_nil ho) hR hlen hq
theorem m_writtenAt (hX : Cl sc X) {o : List Int32} (hR : wqR o wr) {k : Int32} (hk : -1 ≤ k) (hq : Q (some (.int (tlK o k))) (MW nw fr pa st rf tx ln bo ss ai fi op dp wr (nI o.length) f1 f2 pm ch sd sm pk sv sz vm hpz pl sg wt bu hsh)) : X B 153 0 [some (.ref 0), some (.int k)] [] (MW nw fr pa st rf tx ln bo ss ai fi op dp wr (nI o.length) f1 f2 pm ch sd sm pk sv sz vm hpz pl sg wt bu hsh) Q := by
  have h2 := hR.2.1
  iterate 3 refine hX ?_
  refine And.intro (fun h => ?_) (fun h => ?_)
  · iterate 4 refine hX ?_
    rw [tlK, if_pos h] at hq
    exact hq
  · obtain ⟨n, rfl, hn, hnc⟩ := k_nat hk h
    rw [tlK, if_neg h, hnc] at hq
    iterate 4 refine hX ?_
    by_cases hl : n < o.length
    · rw [if_pos hl] at hq
      refine And.intro (fun h => absurd ((nle (by omega) (by omega)).mp h) (by omega)) (fun _ => ?_)
      iterate 4 refine hX ?_
      refine And.intro (vp_in_nI (by rw [hR.1]; omega) (by rw [hR.1]; omega)) ?_
      rw [nI_clamp (by omega), wqR_at hR hl]
      iterate 2 refine hX ?_
      exact hq
    · rw [if_neg hl] at hq
      refine And.intro (fun _ => ?_) (fun h => absurd ((nle (by omega) (by omega)).mpr (by omega)) h)
      iterate 2 refine hX ?_
      exact hq
theorem m_shown (hX : Cl sc X) (hB : 5 ≤ B.1) (ho : op.length = 41) (hwr : wr.length = 200) (hr3 : rf.length = 3) {E : List (List Int32)} (hg : gE E) {e k : Int32} (hq0 : ¬ (hsI e (E.length / 2) = 1 ∧ -1 ≤ k) → Q (some (.int (-2))) (MW (rowE E) fr pa st (bmp rf 0) tx ln bo ss ai fi op dp wr wm f1 f2 pm ch sd sm pk sv sz vm hpz pl sg wt bu hsh)) (hq1 : hsI e (E.length / 2) = 1 ∧ -1 ≤ k → ∀ op' wr' dp' wm', op'.length = 41 → wr'.length = 200 → Q (some (.int (tlK (shw (E.getD (2 * e.toNatClampNeg) []) (E.getD (2 * e.toNatClampNeg + 1) [])) k))) (MW (rowE E) fr pa st rf tx ln bo ss ai fi op' dp' wr' wm' f1 f2 pm ch sd sm pk sv sz vm hpz pl sg wt bu hsh)) : X B 154 0 [some (.ref 0), some (.int e), some (.int k)] [] (MW (rowE E) fr pa st rf tx ln bo ss ai fi op dp wr wm f1 f2 pm ch sd sm pk sv sz vm hpz pl sg wt bu hsh) Q := by
  have h8 := hg.1.1
  have h40 := hg.1.2.1
  have bad : ¬ (hsI e (E.length / 2) = 1 ∧ -1 ≤ k) → X B 154 13 [some (.ref 0), some (.int e), some (.int k)] [] (MW (rowE E) fr pa st rf tx ln bo ss ai fi op dp wr wm f1 f2 pm ch sd sm pk sv sz vm hpz pl sg wt bu hsh) Q := by
    intro h
    iterate 2 refine hX ?_
    refine c_mbad hX (by omega) hr3 ?_
    refine hX ?_
    exact hq0 h
  iterate 3 refine hX ?_
  refine c_isEq hX (by omega) hg ?_
  rcases hsI_or e (E.length / 2) with he | he
  · rw [he]
    exact hX (And.intro (fun _ => bad (fun q => by rw [he] at q; exact absurd q.1 (by decide))) (fun h => absurd rfl h))
  rw [he]
  refine hX (And.intro (fun h => absurd h (by decide)) (fun _ => ?_))
  iterate 3 refine hX ?_
  refine And.intro (fun hk => ?_) (fun hk => bad (fun q => hk q.2))
  have hq2 := hq1 ⟨he, hk⟩
  obtain ⟨i, rfl, hi, hic⟩ := hsI_is (by omega) he
  rw [hic] at hq2
  obtain ⟨x1, a1, a2, a3⟩ := row_side hg (k := 2 * i) (by omega)
  obtain ⟨x2, b1, b2, b3⟩ := row_side hg (k := 2 * i + 1) (by omega)
  have hlu := wS_len a2
  have hlv := wS_len b2
  have hsum : (E.getD (2 * i) []).length + (E.getD (2 * i + 1) []).length ≤ 40 := by
    have h1 := pre_succ E (2 * i)
    have h2 := pre_succ E (2 * i + 1)
    have h3 := pre_leF E (2 * i + 1 + 1)
    omega
  iterate 7 refine hX ?_
  refine And.intro trivial (cMw [.ref 0, .int (nI i), .int 0] (fun u : List Int32 × List Int32 × Int32 => wqR (wS (E.getD (2 * i) []) []).1 u.1 ∧ u.2.1.length = 41) (fun _ => none) (fun u => (MW (rowE E) fr pa st rf tx ln bo ss ai fi u.2.1 u.2.2 u.1 (nI (wS (E.getD (2 * i) []) []).1.length) f1 f2 pm ch sd sm pk sv sz vm hpz pl sg wt bu hsh)) (by omega) rfl rfl (fun _ => rfl) (fun _ => rfl) (fun _ => rfl) (fun Q' hQ' => m_writesSide (j := 0) (o := []) hX (by show 4 ≤ B.1 - 1; omega) hg hi (by omega) ho (wqR_nil hwr) (by simp only [List.length_nil, Nat.add_zero]; omega) (fun w o d a b => hQ' (w, o, d) ⟨a, b⟩)) (fun u hu => ?_))
  obtain ⟨wr1, op1, dp1⟩ := u
  dsimp only at hu ⊢
  iterate 3 refine hX ?_
  refine c_writes hX (by omega) hu.1 (by omega) (fun wr2 hR2 => ?_)
  iterate 4 refine hX ?_
  refine And.intro trivial (cMw [.ref 0, .int (nI i), .int 1] (fun u : List Int32 × List Int32 × Int32 => wqR (shw (E.getD (2 * i) []) (E.getD (2 * i + 1) [])) u.1 ∧ u.2.1.length = 41) (fun _ => none) (fun u => (MW (rowE E) fr pa st rf tx ln bo ss ai fi u.2.1 u.2.2 u.1 (nI (shw (E.getD (2 * i) []) (E.getD (2 * i + 1) [])).length) f1 f2 pm ch sd sm pk sv sz vm hpz pl sg wt bu hsh)) (by omega) rfl rfl (fun _ => rfl) (fun _ => rfl) (fun _ => rfl) (fun Q' hQ' => m_writesSide (j := 1) hX (by show 4 ≤ B.1 - 1; omega) hg hi (by omega) hu.2 hR2 (by rw [List.length_append, List.length_singleton]; omega) (fun w o d a b => hQ' (w, o, d) ⟨a, b⟩)) (fun u hu2 => ?_))
  obtain ⟨wr3, op3, dp3⟩ := u
  dsimp only at hu2 ⊢
  iterate 3 refine hX ?_
  refine And.intro trivial (cPw [.ref 0, .int k] (some (.int (tlK (shw (E.getD (2 * i) []) (E.getD (2 * i + 1) [])) k))) (by omega) rfl rfl rfl (fun Q' hQ' => m_writtenAt hX hu2.1 hk hQ') ?_)
  refine hX ?_
  exact hq2 op3 wr3 dp3 _ hu2.2 hu2.1.1
end MH
