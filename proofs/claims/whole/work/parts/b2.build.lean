/-! The model: what stands; how large a side becomes; what it becomes. -/
/-- a stack of numbers in a row of N, its top first -/
def stN (N : Nat) (s : List Nat) (op : List Int32) : Prop := op.length = N ∧ s.length ≤ N ∧ ∀ i, i < s.length → op.getD (s.length - 1 - i) 0 = nI (s.getD i 0)
theorem stN_top {N p : Nat} {s : List Nat} {op : List Int32} (h : stN N (p :: s) op) : op.getD s.length 0 = nI p ∧ stN N s op ∧ s.length < N := by
  obtain ⟨h1, h2, h3⟩ := h
  rw [List.length_cons] at h2 h3
  refine ⟨?_, ⟨h1, by omega, fun i hi => ?_⟩, by omega⟩
  · have := h3 0 (by omega)
    simpa using this
  · have := h3 (i + 1) (by omega)
    rw [show s.length + 1 - 1 - (i + 1) = s.length - 1 - i by omega] at this
    simpa using this
theorem stN_push {N p : Nat} {s : List Nat} {op : List Int32} (h : stN N s op) (hs : s.length < N) : stN N (p :: s) (op.set s.length (nI p)) := by
  obtain ⟨h1, h2, h3⟩ := h
  refine ⟨by rw [List.length_set]; exact h1, by rw [List.length_cons]; omega, fun i hi => ?_⟩
  rw [List.length_cons] at hi ⊢
  cases i with
  | zero =>
    rw [show s.length + 1 - 1 - 0 = s.length by omega, getD_set_eq (by omega)]
    rfl
  | succ i =>
    rw [show s.length + 1 - 1 - (i + 1) = s.length - 1 - i by omega, getD_set_ne (by omega), h3 i (by omega)]
    simp
theorem stN_nil {N : Nat} {op : List Int32} (h : op.length = N) : stN N [] op := ⟨h, by simp, fun i hi => by simp at hi⟩
def sdR (D : List Nat) (sd : List Int32) : Prop := sd.length = 6 ∧ ∀ i, i < D.length → sd.getD i 0 = nI (D.getD i 0)
/-- a CHOICE in the model's row -/
def chB (bs : List (List Nat)) (ch : List Int32) : Prop := ch.length = 6 ∧ ∀ y, y < 6 → bOk (bs.getD y []) ∧ ch.getD y 0 = nI (wB (bs.getD y []))
/-- how many letters a BODY's parts make it -/
def gsm : List Nat → Nat → Nat → Nat
  | [], _, _ => 0
  | d :: r, a, b => (if d = 1 then a else if d = 2 then b else 1) + gsm r a b
theorem gsm_app : ∀ (l r : List Nat) (a b : Nat), gsm (l ++ r) a b = gsm l a b + gsm r a b
  | [], r, a, b => by simp [gsm]
  | d :: l, r, a, b => by rw [List.cons_append, gsm, gsm_app l r a b, gsm]; omega
theorem gsm_rev : ∀ (l : List Nat) (a b : Nat), gsm l.reverse a b = gsm l a b
  | [], a, b => rfl
  | d :: l, a, b => by rw [List.reverse_cons, gsm_app, gsm_rev l, gsm, gsm, gsm]; omega
theorem sub_gsm : ∀ (b : List Nat) (a1 a2 : List Int32), (sub b a1 a2).length = gsm b a1.length a2.length
  | [], a1, a2 => rfl
  | d :: r, a1, a2 => by
    rw [gsm]
    by_cases h1 : d = 1
    · subst h1
      rw [sub_cons1, List.length_append, sub_gsm r, if_pos rfl]
    · by_cases h2 : d = 2
      · subst h2
        rw [sub_cons2, List.length_append, sub_gsm r, if_neg h1, if_pos rfl]
      · rw [sub_cons3 h1 h2, List.length_cons, sub_gsm r, if_neg h1, if_neg h2]
        omega
theorem gsm_min : ∀ (b : List Nat) (u a c : Nat), min 1000 (u + gsm b (min 1000 a) (min 1000 c)) = min 1000 (u + gsm b a c)
  | [], u, a, c => rfl
  | d :: r, u, a, c => by
    rw [gsm, gsm]
    have h1 := gsm_min r (u + min 1000 a) a c
    have h2 := gsm_min r (u + min 1000 c) a c
    have h3 := gsm_min r (u + 1) a c
    split
    · omega
    · split <;> omega
theorem gsm_le : ∀ (b : List Nat) (a c : Nat), a ≤ 1000 → c ≤ 1000 → gsm b a c ≤ 1000 * b.length
  | [], a, c, _, _ => by simp [gsm]
  | d :: r, a, c, ha, hc => by
    have := gsm_le r a c ha hc
    rw [gsm, List.length_cons]
    split
    · omega
    · split <;> omega
/-- a letter's size, no more than 1000 -/
def szf (bs : List (List Nat)) (c : Int32) (as : List Nat) : Nat := min 1000 (gsm (bs.getD (kN c) []) (as.getD 0 0) (as.getD 1 0))
theorem getD_mapN {l : List (List Int32)} {k : Nat} : (l.map fun t => min 1000 t.length).getD k 0 = min 1000 (l.getD k []).length := by
  rw [List.getD_eq_getElem?_getD, List.getD_eq_getElem?_getD, List.getElem?_map]
  cases l[k]? with
  | none => rfl
  | some t => rfl
theorem ev_szf (bs : List (List Nat)) : ∀ (x : List Int32), ev (szf bs) x = (ev (grf bs) x).map fun t => min 1000 t.length
  | [] => rfl
  | c :: x => by
    rw [ev, ev, List.map_cons, ev_szf bs x, List.map_drop, ← List.map_take]
    congr 1
    rw [szf, grf, sub_gsm, getD_mapN, getD_mapN]
    have := gsm_min (bs.getD (kN c) []) 0 (((ev (grf bs) x).take (arN c)).getD 0 []).length (((ev (grf bs) x).take (arN c)).getD 1 []).length
    rw [Nat.zero_add, Nat.zero_add] at this
    exact this
theorem ev_szf1 {bs : List (List Nat)} {x : List Int32} (h : okF x 1 = true) : ev (szf bs) x = [min 1000 (grw bs x).length] := by
  rw [ev_szf, ev_one h]
  rfl
theorem szf_rig {bs : List (List Nat)} (hr : rig bs) {c : Int32} (hk : ¬ kdI c = -1) (hf : ¬ fxI c = 1) {a b : Nat} (h1 : arN c < 1 → a = 0) (h2 : arN c < 2 → b = 0) : gsm (bs.getD (kN c) []) a b = 1 + a + b := by
  have h6 := kN_rig hk hf
  have h10 := (kN_ok hk).2
  rw [hr (kN c) h6 h10]
  have key : ∀ c ∈ ([85, 86, 87, 88, 89, 90, 97, 98, 102, 103] : List Int32), ¬ fxI c = 1 → (c = 97 ∨ c = 98 ∨ c = 102 ∨ c = 103) := by decide
  rcases key c (letters10 hk) hf with rfl | rfl | rfl | rfl
  · have := h1 (by decide)
    have := h2 (by decide)
    subst_vars
    rfl
  · have := h1 (by decide)
    have := h2 (by decide)
    subst_vars
    rfl
  · have := h2 (by decide)
    subst_vars
    show 1 + (a + 0) = 1 + a + 0
    omega
  · show 1 + (a + (b + 0)) = 1 + a + b
    omega
section ML
variable {sc : List Int32} {X : pX} {B : pB} {Q : pQ} {nw fr pa rf tx bo ss op wr f1 f2 ch sd pk sv sz hpz pl sg bu : List Int32} {st ln ai fi dp wm pm sm vm wt : Int32} {hsh : Int64}
theorem m_standing_loop (hX : Cl sc X) {b : Nat} (hb : b < 64) (hq : ∀ sd', sdR ((List.range 6).filter (bt b)) sd' → Q none (MW nw fr pa st rf tx ln bo ss ai fi op dp wr wm f1 f2 pm ch sd' (nI ((List.range 6).filter (bt b)).length) pk sv sz vm hpz pl sg wt bu hsh)) : ∀ (n x : Nat), x + n = 6 → ∀ (sd : List Int32), sdR ((List.range x).filter (bt b)) sd → X B 166 18 [some (.ref 0), some (.int (nI b)), some (.int (nI x))] [] (MW nw fr pa st rf tx ln bo ss ai fi op dp wr wm f1 f2 pm ch sd (nI ((List.range x).filter (bt b)).length) pk sv sz vm hpz pl sg wt bu hsh) Q := by
  intro n
  induction n with
  | zero =>
    intro x hx sd hS
    have : x = 6 := by omega
    subst this
    iterate 3 refine hX ?_
    refine And.intro (fun _ => ?_) (fun h => absurd (by decide) h)
    refine hX ?_
    exact hq sd hS
  | succ n ih =>
    intro x hx sd hS
    have hl : ((List.range x).filter (bt b)).length ≤ x := by
      have := List.length_filter_le (bt b) (List.range x)
      rw [List.length_range] at this
      exact this
    iterate 3 refine hX ?_
    refine And.intro (fun h => absurd ((nle (a := 6) (by omega) (by omega)).mp h) (by omega)) (fun _ => ?_)
    iterate 7 refine hX ?_
    rw [nbit hb (by omega)]
    have hk := ih (x + 1) (by omega)
    rw [List.range_succ, List.filter_append] at hk
    by_cases hbt : bt b x = true
    · rw [List.filter_cons_of_pos hbt, List.filter_nil] at hk
      rw [hbt, if_pos rfl]
      refine And.intro (fun _ => ?_) (fun h => absurd rfl h)
      iterate 6 refine hX ?_
      refine And.intro (vp_in_nI (by rw [hS.1]; omega) (by rw [hS.1]; omega)) ?_
      rw [nI_clamp (by omega)]
      iterate 8 refine hX ?_
      rw [show nI x + 1 = nI (x + 1) from (nI_succ x).symm, show nI ((List.range x).filter (bt b)).length + 1 = nI ((List.range x).filter (bt b) ++ [x]).length by rw [List.length_append, List.length_singleton, nI_succ]]
      refine hk _ ⟨by rw [List.length_set]; exact hS.1, fun i hi => ?_⟩
      rw [List.length_append, List.length_singleton] at hi
      by_cases e : ((List.range x).filter (bt b)).length = i
      · subst e
        rw [getD_set_eq (by rw [hS.1]; omega), getD_app2]
      · rw [getD_set_ne e, getD_app1 (by omega)]
        exact hS.2 i (by omega)
    · rw [List.filter_cons_of_neg hbt, List.filter_nil, List.append_nil] at hk
      rw [if_neg hbt]
      refine And.intro (fun h => absurd h (by decide)) (fun _ => ?_)
      iterate 2 refine hX ?_
      rw [show nI x + 1 = nI (x + 1) from (nI_succ x).symm]
      exact hk sd hS
theorem m_laysStanding (hX : Cl sc X) (hB : 3 ≤ B.1) {E : List (List Int32)} (hg : gE E) (hsd : sd.length = 6) (hq : ∀ sd', sdR (std E.flatten) sd' → Q none (MW (rowE E) fr pa st rf tx ln bo ss ai fi op dp wr wm f1 f2 pm ch sd' (nI (std E.flatten).length) pk sv sz vm hpz pl sg wt bu hsh)) : X B 166 0 [some (.ref 0), none, none] [] (MW (rowE E) fr pa st rf tx ln bo ss ai fi op dp wr wm f1 f2 pm ch sd sm pk sv sz vm hpz pl sg wt bu hsh) Q := by
  iterate 4 refine hX ?_
  refine c_all hX (by omega) hg rfl ?_
  refine hX ?_
  refine c_flexAll hX hB hg ?_
  iterate 6 refine hX ?_
  exact m_standing_loop hX (flb_lt E.flatten 0 (by omega)) hq 6 0 rfl sd ⟨hsd, fun i hi => by simp at hi⟩
theorem m_grown_loop (hX : Cl sc X) {h : pH} {l0 l1 : Option Value} {a c : Nat} (ha : a ≤ 1000) (hc : c ≤ 1000) : ∀ (r : List Nat) (n : Nat) (l6 : Option Value), (∀ d ∈ r, 1 ≤ d ∧ d ≤ 6) → r.length ≤ 6 → Q (some (.int (nI (n + gsm r a c)))) h → X B 167 11 [l0, l1, some (.int (nI a)), some (.int (nI c)), some (.int (nI n)), some (.int (nI (wC r))), l6] [] h Q := by
  intro r
  induction r with
  | nil =>
    intro n l6 _ _ hq
    iterate 2 refine hX ?_
    refine And.intro (fun _ => ?_) (fun h => absurd (by decide) h)
    repeat refine hX ?_
    exact hq
  | cons d r ih =>
    intro n l6 hr h6 hq
    have hd := hr d List.mem_cons_self
    have hw := wC_lt18 (b := d :: r) ⟨h6, hr⟩
    rw [List.length_cons] at h6
    rw [gsm] at hq
    rw [wC] at hw
    have fin : ∀ v : Nat, v = (if d = 1 then a else if d = 2 then c else 1) → X B 167 46 [l0, l1, some (.int (nI a)), some (.int (nI c)), some (.int (nI n)), some (.int (nI (wC (d :: r)))), some (.int (nI d))] [.int (nI v), .int (nI n)] h Q := by
      intro v hv
      iterate 7 refine hX ?_
      rw [nadd, show (3 : Int32) = nI 3 from rfl, nshr (by rw [wC]; omega) (by omega), show wC (d :: r) / 2 ^ 3 = wC r by rw [wC]; omega]
      exact ih (n + v) _ (fun e he => hr e (List.mem_cons_of_mem _ he)) (by omega) (by rw [hv, Nat.add_assoc]; exact hq)
    iterate 2 refine hX ?_
    refine And.intro (fun h => absurd ((nle (b := 0) (by rw [wC]; omega) (by omega)).mp h) (by rw [wC]; omega)) (fun _ => ?_)
    iterate 8 refine hX ?_
    rw [nand7 (by rw [wC]; omega), show wC (d :: r) % 8 = d by rw [wC]; omega]
    refine And.intro (fun h => ?_) (fun h => ?_)
    · have h1 : d = 1 := (neq (b := 1) (by omega) (by omega)).mp h
      iterate 2 refine hX ?_
      exact fin a (by rw [if_pos h1])
    · have h1 : ¬ d = 1 := fun q => h (by rw [q]; rfl)
      iterate 3 refine hX ?_
      refine And.intro (fun h => ?_) (fun h => ?_)
      · have h2 : d = 2 := (neq (b := 2) (by omega) (by omega)).mp h
        iterate 2 refine hX ?_
        exact fin c (by rw [if_neg h1, if_pos h2])
      · have h2 : ¬ d = 2 := fun q => h (by rw [q]; rfl)
        refine hX ?_
        exact fin 1 (by rw [if_neg h1, if_neg h2])
theorem m_grown (hX : Cl sc X) {bs : List (List Nat)} (hc : chB bs ch) {x a c : Nat} (hx : x < 6) (ha : a ≤ 1000) (hc2 : c ≤ 1000) (hq : Q (some (.int (nI (gsm (bs.getD x []) a c)))) (MW nw fr pa st rf tx ln bo ss ai fi op dp wr wm f1 f2 pm ch sd sm pk sv sz vm hpz pl sg wt bu hsh)) : X B 167 0 [some (.ref 0), some (.int (nI x)), some (.int (nI a)), some (.int (nI c)), none, none, none] [] (MW nw fr pa st rf tx ln bo ss ai fi op dp wr wm f1 f2 pm ch sd sm pk sv sz vm hpz pl sg wt bu hsh) Q := by
  obtain ⟨h1, h2⟩ := hc
  obtain ⟨hb, hw⟩ := h2 x hx
  iterate 6 refine hX ?_
  refine And.intro (vp_in_nI (by omega) (by omega)) ?_
  rw [nI_clamp (by omega), hw]
  refine hX ?_
  exact m_grown_loop hX ha hc2 (bs.getD x []).reverse 0 none (bOk_rev hb).2 (bOk_rev hb).1 (by rw [Nat.zero_add, gsm_rev]; exact hq)
theorem ev_len {V : Type} (f : Int32 → List V → V) : ∀ (x : List Int32) (n : Nat), okF x n = true → (ev f x).length = n := fun x n h => (ev_app f x [] n h).2
theorem m_comesTo_loop (hX : Cl sc X) (hB : 3 ≤ B.1) {E : List (List Int32)} (hg : gE E) {bs : List (List Nat)} (hc : chB bs ch) (hr : rig bs) {x xr : List Int32} {a : Nat} (h1 : (rowE E).drop a = x ++ xr) (h2 : okF x 1 = true) (hx : x.length ≤ 40) (hk : ∀ c ∈ x, ¬ kdI c = -1) {l1 l2 : Int32} (hq : ∀ hz', hz'.length = 48 → Q (some (.int (nI (min 1000 (grw bs x).length)))) (MW (rowE E) fr pa st rf tx ln bo ss ai fi op dp wr wm f1 f2 pm ch sd sm pk sv sz vm hz' pl sg wt bu hsh)) :
    ∀ (j : Nat) (y : List Int32) (m : Nat), j ≤ x.length → x.drop j = y → okF y m = true → ∀ (hz : List Int32) (l6 l7 l8 l9 : Option Value), stN 48 (ev (szf bs) y) hz → X B 168 23 [some (.ref 0), some (.int l1), some (.int l2), some (.int (nI (ev (szf bs) y).length)), some (.int (nI a)), some (.int (nI (a + j) - 1)), l6, l7, l8, l9] [] (MW (rowE E) fr pa st rf tx ln bo ss ai fi op dp wr wm f1 f2 pm ch sd sm pk sv sz vm hz pl sg wt bu hsh) Q := by
  have hl := rowE_len hg
  have hal : a + x.length ≤ 49 := by
    have := congrArg List.length h1
    rw [List.length_drop, List.length_append, hl] at this
    have := okF_pos h2 (by omega)
    omega
  have hxp := okF_pos h2 (by omega)
  intro j
  induction j with
  | zero =>
    intro y m hj hy hm hz l6 l7 l8 l9 hS
    rw [List.drop_zero] at hy
    subst hy
    rw [ev_szf1 h2] at hS ⊢
    have ht := (stN_top hS).1
    iterate 3 refine hX ?_
    rw [Nat.add_zero]
    refine And.intro (fun _ => ?_) (fun h => ?_)
    · iterate 4 refine hX ?_
      refine And.intro (vp_in_nI (n := 0) (by rw [hS.1]; omega) (by rw [hS.1]; omega)) ?_
      rw [show Int32.toNatClampNeg 0 = 0 from rfl, show hz.getD 0 0 = nI (min 1000 (grw bs x).length) from ht]
      refine hX ?_
      exact hq hz hS.1
    · refine absurd ?_ h
      rw [Int32.lt_iff_toInt_lt]
      cases a with
      | zero => decide
      | succ a => rw [nI_pred, nI_toInt (by omega), nI_toInt (by omega)]; omega
  | succ j ih =>
    intro y m hj hy hm hz l6 l7 l8 l9 hS
    have hsx : x.drop j = x.getD j 0 :: y := by rw [drop_cons (by omega), hy]
    obtain ⟨m', hm'⟩ := okF_suffix x 1 j h2 (by omega)
    rw [hsx] at hm'
    obtain ⟨m2, rfl, hm2⟩ := okF_cons hm'
    have hyl := ev_len (szf bs) y m hm
    have hmm : m = m2 + arN (x.getD j 0) := by
      have e1 := okF_sum y m hm
      have e2 := okF_sum y _ hm2
      omega
    have hcj : (rowE E).getD (a + j) 0 = x.getD j 0 := by
      have := congrArg (fun l => l.getD j 0) h1
      rw [List.getD_eq_getElem?_getD, List.getElem?_drop, ← List.getD_eq_getElem?_getD, getD_app1 (by omega)] at this
      exact this
    have hkc := hk _ (getD_mem (d := 0) (show j < x.length by omega))
    generalize hcc : x.getD j 0 = c at hsx hm' hm2 hmm hcj hkc
    have har := arN_le c
    have hy40 : (ev (szf bs) y).length ≤ 40 := by
      have e1 := okF_sum y m hm
      have : y.length ≤ 40 := by rw [← hy, List.length_drop]; omega
      omega
    have hle : ∀ v ∈ ev (szf bs) y, v ≤ 1000 := by
      rw [ev_szf]
      intro v hv
      rw [List.mem_map] at hv
      obtain ⟨t, -, rfl⟩ := hv
      omega
    have hgl : ∀ k, (ev (szf bs) y).getD k 0 ≤ 1000 := by
      intro k
      by_cases hkk : k < (ev (szf bs) y).length
      · exact hle _ (getD_mem hkk)
      · rw [getD_out (by omega)]; omega
    have e0 : nI (a + (j + 1)) - 1 = nI (a + j) := nI_pred (a + j)
    rw [e0]
    iterate 3 refine hX ?_
    refine And.intro (fun h => absurd ((nlt (by omega) (by omega)).mp h) (by omega)) (fun _ => ?_)
    iterate 4 refine hX ?_
    refine And.intro (vp_in_nI (by omega) (by omega)) ?_
    rw [nI_clamp (by omega), hcj]
    refine hX (cP [] [.int c] [] (some (.int (prI c))) [.int (prI c)] (by omega) rfl rfl rfl rfl (fun Q' hQ' => m_partsOf hX (by show 2 ≤ B.1 - 1; omega) hQ') ?_)
    rw [prI_let hkc]
    generalize hV : ev (szf bs) y = V at hS hyl hy40 hgl
    have hat : ∀ i, i < V.length → hz.getD (V.length - 1 - i) 0 = nI (V.getD i 0) := hS.2.2
    have hz48 := hS.1
    -- the parts' sizes
    have fin : ∀ (n' : Nat) (va vb : Nat), va = (if 1 ≤ arN c then V.getD 0 0 else 0) → vb = (if 2 ≤ arN c then V.getD 1 0 else 0) → X B 168 81 [some (.ref 0), some (.int l1), some (.int l2), some (.int (nI V.length)), some (.int (nI a)), some (.int (nI (a + j))), some (.int (nI (arN c))), some (.int (nI va)), some (.int (nI vb)), l9] [] (MW (rowE E) fr pa st rf tx ln bo ss ai fi op dp wr wm f1 f2 pm ch sd sm pk sv sz vm hz pl sg wt bu hsh) Q := by
      intro n' va vb hva hvb
      have hva1 : va ≤ 1000 := by rw [hva]; split; exact hgl 0; omega
      have hvb1 : vb ≤ 1000 := by rw [hvb]; split; exact hgl 1; omega
      have hbk : gsm (bs.getD (kN c) []) va vb ≤ 6000 := by
        by_cases hf : fxI c = 1
        · have := gsm_le (bs.getD (kN c) []) va vb hva1 hvb1
          have h6 := (hc.2 _ (fx_kN hf).2.2).1.1
          have : 1000 * (bs.getD (kN c) []).length ≤ 1000 * 6 := Nat.mul_le_mul_left _ h6
          omega
        · rw [szf_rig hr hkc hf (fun q => by rw [hva, if_neg (by omega)]) (fun q => by rw [hvb, if_neg (by omega)])]
          omega
      have hev : ev (szf bs) (c :: y) = min 1000 (gsm (bs.getD (kN c) []) va vb) :: V.drop (arN c) := by
        rw [ev, hV, szf, hva, hvb]
        congr 3
        · split
          · rw [List.getD_eq_getElem?_getD, List.getElem?_take_of_lt (by omega), ← List.getD_eq_getElem?_getD]
          · rw [getD_out (by rw [List.length_take]; omega)]
        · split
          · rw [List.getD_eq_getElem?_getD, List.getElem?_take_of_lt (by omega), ← List.getD_eq_getElem?_getD]
          · rw [getD_out (by rw [List.length_take]; omega)]
      have hdl : (V.drop (arN c)).length = V.length - arN c := List.length_drop
      have hSd : stN 48 (V.drop (arN c)) hz := by
        refine ⟨hz48, by omega, fun i hi => ?_⟩
        rw [hdl] at hi ⊢
        have := hat (arN c + i) (by omega)
        rw [show V.length - 1 - (arN c + i) = V.length - arN c - 1 - i by omega] at this
        rw [this, List.getD_eq_getElem?_getD, List.getD_eq_getElem?_getD, List.getElem?_drop]
      have tail : ∀ l9' : Option Value, X B 168 127 [some (.ref 0), some (.int l1), some (.int l2), some (.int (nI (V.length - arN c))), some (.int (nI a)), some (.int (nI (a + j))), some (.int (nI (arN c))), some (.int (nI va)), some (.int (nI vb)), l9'] [.int (nI (gsm (bs.getD (kN c) []) va vb))] (MW (rowE E) fr pa st rf tx ln bo ss ai fi op dp wr wm f1 f2 pm ch sd sm pk sv sz vm hz pl sg wt bu hsh) Q := by
        intro l9'
        have hSp : stN 48 (ev (szf bs) (c :: y)) (hz.set (V.length - arN c) (nI (min 1000 (gsm (bs.getD (kN c) []) va vb)))) := by
          rw [hev, ← hdl]
          exact stN_push hSd (by omega)
        have hlen2 : (ev (szf bs) (c :: y)).length = V.length - arN c + 1 := by rw [hev, List.length_cons, hdl]
        have hih := fun l9' => ih (c :: y) _ (by omega) hsx hm' _ (some (.int (nI (arN c)))) (some (.int (nI va))) (some (.int (nI vb))) l9' hSp
        rw [hlen2] at hih
        iterate 7 refine hX ?_
        by_cases hg2 : 1000 ≤ gsm (bs.getD (kN c) []) va vb
        · refine And.intro (fun _ => ?_) (fun h => absurd ((nle (a := 1000) (by omega) (by omega)).mpr hg2) h)
          rw [Nat.min_eq_left hg2] at hih
          iterate 2 refine hX ?_
          refine And.intro (vp_in_nI (by omega) (by omega)) ?_
          rw [nI_clamp (by omega)]
          iterate 3 refine hX ?_
          rw [show nI (V.length - arN c) + 1 = nI (V.length - arN c + 1) from (nI_succ _).symm, ← Int32.sub_eq_add_neg]
          exact hih _
        · refine And.intro (fun h => absurd ((nle (a := 1000) (by omega) (by omega)).mp h) hg2) (fun _ => ?_)
          rw [Nat.min_eq_right (by omega)] at hih
          iterate 3 refine hX ?_
          refine And.intro (vp_in_nI (by omega) (by omega)) ?_
          rw [nI_clamp (by omega)]
          iterate 3 refine hX ?_
          rw [show nI (V.length - arN c) + 1 = nI (V.length - arN c + 1) from (nI_succ _).symm, ← Int32.sub_eq_add_neg]
          exact hih _
      iterate 8 refine hX ?_
      rw [nsub (by omega)]
      refine And.intro (vp_in_nI (by omega) (by omega)) ?_
      rw [nI_clamp (by omega), hcj]
      refine hX (cP [] [.int c] [] (some (.int (fxI c))) [.int (fxI c)] (by omega) rfl rfl rfl rfl (fun Q' hQ' => m_isFlex hX (by show 1 ≤ B.1 - 1; omega) hQ') ?_)
      rcases fxI_or c with hf | hf
      · rw [hf]
        refine hX (And.intro (fun _ => ?_) (fun h => absurd rfl h))
        iterate 5 refine hX ?_
        have ht := tail l9
        rw [show nI (gsm (bs.getD (kN c) []) va vb) = (1 : Int32) + nI va + nI vb by
          rw [szf_rig hr hkc (by rw [hf]; decide) (fun q => by rw [hva, if_neg (by omega)]) (fun q => by rw [hvb, if_neg (by omega)]), show (1 : Int32) = nI 1 from rfl, nadd, nadd]] at ht
        exact ht
      · rw [hf]
        refine hX (And.intro (fun h => absurd h (by decide)) (fun _ => ?_))
        iterate 5 refine hX ?_
        refine And.intro (vp_in_nI (by omega) (by omega)) ?_
        rw [nI_clamp (by omega), hcj]
        iterate 5 refine hX ?_
        rw [(fx_kN hf).2.1]
        refine And.intro trivial (cPw [.ref 0, .int (nI (kN c)), .int (nI va), .int (nI vb)] (some (.int (nI (gsm (bs.getD (kN c) []) va vb)))) (by omega) rfl rfl rfl (fun Q' hQ' => m_grown hX hc (fx_kN hf).2.2 hva1 hvb1 hQ') ?_)
        refine hX ?_
        exact tail _
    have two : ∀ va : Nat, va = (if 1 ≤ arN c then V.getD 0 0 else 0) → X B 168 59 [some (.ref 0), some (.int l1), some (.int l2), some (.int (nI V.length)), some (.int (nI a)), some (.int (nI (a + j))), some (.int (nI (arN c))), l7, l8, l9] [.int (nI va)] (MW (rowE E) fr pa st rf tx ln bo ss ai fi op dp wr wm f1 f2 pm ch sd sm pk sv sz vm hz pl sg wt bu hsh) Q := by
      intro va hva
      iterate 4 refine hX ?_
      by_cases ha2 : 2 ≤ arN c
      · refine And.intro (fun h => absurd ((nle (b := 1) (by omega) (by omega)).mp h) (by omega)) (fun _ => ?_)
        iterate 6 refine hX ?_
        rw [show nI V.length - 2 = nI (V.length - 1 - 1) by rw [show (2 : Int32) = nI 2 from rfl, nsub (by omega)]; rfl]
        refine And.intro (vp_in_nI (by omega) (by omega)) ?_
        rw [nI_clamp (by omega), hat 1 (by omega)]
        iterate 2 refine hX ?_
        exact fin 0 va _ hva (by rw [if_pos ha2])
      · refine And.intro (fun _ => ?_) (fun h => absurd ((nle (b := 1) (by omega) (by omega)).mpr (by omega)) h)
        iterate 2 refine hX ?_
        exact fin 0 va 0 hva (by rw [if_neg ha2])
    iterate 3 refine hX ?_
    by_cases ha1 : 1 ≤ arN c
    · refine And.intro (fun h => absurd ((nle (b := 0) (by omega) (by omega)).mp h) (by omega)) (fun _ => ?_)
      iterate 6 refine hX ?_
      rw [show nI V.length - 1 = nI (V.length - 1 - 0) from nsub (b := 1) (by omega)]
      refine And.intro (vp_in_nI (by omega) (by omega)) ?_
      rw [nI_clamp (by omega), hat 0 (by omega)]
      refine hX ?_
      exact two _ (by rw [if_pos ha1])
    · refine And.intro (fun _ => ?_) (fun h => absurd ((nle (b := 0) (by omega) (by omega)).mpr (by omega)) h)
      refine hX ?_
      exact two 0 (by rw [if_neg ha1])
theorem m_comesTo (hX : Cl sc X) (hB : 3 ≤ B.1) {E : List (List Int32)} (hg : gE E) {bs : List (List Nat)} (hc : chB bs ch) (hr : rig bs) (hz48 : hpz.length = 48) {i j : Nat} (hi : i < E.length / 2) (hj : j < 2) (hq : ∀ hz', hz'.length = 48 → Q (some (.int (nI (min 1000 (grw bs (E.getD (2 * i + j) [])).length)))) (MW (rowE E) fr pa st rf tx ln bo ss ai fi op dp wr wm f1 f2 pm ch sd sm pk sv sz vm hz' pl sg wt bu hsh)) : X B 168 0 [some (.ref 0), some (.int (nI i)), some (.int (nI j)), none, none, none, none, none, none, none] [] (MW (rowE E) fr pa st rf tx ln bo ss ai fi op dp wr wm f1 f2 pm ch sd sm pk sv sz vm hpz pl sg wt bu hsh) Q := by
  have h8 := hg.1.1
  obtain ⟨xr, r1, r2, r3⟩ := row_side hg (k := 2 * i + j) (by omega)
  have hkd : ∀ c ∈ E.getD (2 * i + j) [], ¬ kdI c = -1 := fun c hc => hg.2.2 c (List.mem_flatten.mpr ⟨_, getD_mem (by omega), hc⟩)
  iterate 6 refine hX ?_
  refine c_begin2 hX (by omega) hg (by omega) rfl ?_
  iterate 6 refine hX ?_
  refine c_nodes hX (by omega) hg (by omega) rfl ?_
  iterate 4 refine hX ?_
  rw [nadd]
  exact m_comesTo_loop hX hB hg hc hr r1 r2 (by omega) hkd hq _ [] 0 (Nat.le_refl _) (List.drop_length) rfl hpz none none none none (stN_nil hz48)
end ML
