/-! Search: what is laid before, and all SOLUTIONS. -/
/-- the SOLUTIONS -/
def sols (E : List (List Int32)) : List (List (List Nat)) := (((List.range' (std E.flatten).length (7 - (std E.flatten).length)).flatMap fun s => enum (std E.flatten) s bs0).filter (slv · E)).take 40
section SR
variable {sc : List Int32} {X : pX} {B : pB} {Q : pQ} {E : List (List Int32)} {P : List (Nat × Nat)} {L S N D C lf rt bw bf kn sn : List Int32} {tt bn us le ct kw : Int32}
theorem t_prep1 (hX : Cl sc X) (hB : 3 ≤ B.1) {b : Nat} (hb : b < 64) {cn : Int32} {sz pl gw lst ws : List Int32} (hq : ∀ w p o t stn, chR bs0 w p o t → stn.length = 6 → (∀ i, i < ((List.range 6).filter (bt b)).length → stn.getD i 0 = nI (((List.range 6).filter (bt b)).getD i 0)) → X B 68 72 [some (.ref 0), some (.int (nI b)), some (.int (nI 6))] [] (SeW L S N D C (nI E.length) tt lf rt cn bw bf bn w p o t kn sn sz pl gw us stn lst ws (nI ((List.range 6).filter (bt b)).length) ct kw) Q) :
    ∀ (n x : Nat), x + n = 6 → ∀ (bs : List (List Nat)) (w p o t stn : List Int32), chR bs w p o t → rig bs → (∀ y, y < x → bs.getD y [] = []) → stn.length = 6 → (∀ i, i < ((List.range x).filter (bt b)).length → stn.getD i 0 = nI (((List.range x).filter (bt b)).getD i 0)) → X B 68 23 [some (.ref 0), some (.int (nI b)), some (.int (nI x))] [] (SeW L S N D C (nI E.length) tt lf rt cn bw bf bn w p o t kn sn sz pl gw us stn lst ws (nI ((List.range x).filter (bt b)).length) ct kw) Q := by
  intro n
  induction n with
  | zero =>
    intro x hx bs w p o t stn hc hr h0 hs hst
    have : x = 6 := by omega
    subst this
    have e : bs = bs0 := ext_getD [] (by rw [hc.1.1]; rfl) (fun y => by
      by_cases h : y < 6
      · rw [h0 y h]
        have : ∀ y, y < 6 → bs0.getD y [] = [] := by decide
        exact (this y h).symm
      · by_cases h10 : y < 10
        · exact hr y (by omega) h10
        · rw [getD_out (by rw [hc.1.1]; omega), getD_out (by show 10 ≤ y; omega)])
    subst e
    iterate 3 refine hX ?_
    refine And.intro (fun _ => ?_) (fun h => absurd (by decide) h)
    exact hq w p o t stn hc hs hst
  | succ n ih =>
    intro x hx bs w p o t stn hc hr h0 hs hst
    have hl10 := hc.1.1
    have hlen : ((List.range x).filter (bt b)).length ≤ x := by
      have := List.length_filter_le (bt b) (List.range x)
      rw [List.length_range] at this
      exact this
    iterate 3 refine hX ?_
    refine And.intro (fun h => absurd ((nle (a := 6) (by omega) (by omega)).mp h) (by omega)) (fun _ => ?_)
    iterate 5 refine hX ?_
    refine And.intro trivial (cMs rG [.ref 0, .int (nI x), .int 0] (GrW L S N D C (nI E.length) tt w p o t kn sn sz pl gw us) (fun u : List Int32 × List Int32 × List Int32 × List Int32 => chR (bs.set x []) u.1 u.2.1 u.2.2.1 u.2.2.2) (fun _ => none) (fun u => GrW L S N D C (nI E.length) tt u.1 u.2.1 u.2.2.1 u.2.2.2 kn sn sz pl gw us) (fun u => SeW L S N D C (nI E.length) tt lf rt cn bw bf bn u.1 u.2.1 u.2.2.1 u.2.2.2 kn sn sz pl gw us stn lst ws (nI ((List.range x).filter (bt b)).length) ct kw) (by omega) rfl rfl rfl (fun _ => rfl) (fun _ => rfl) (fun _ => rfl) (fun Q' hQ' => t_gtake hX (b := []) (by show 2 ≤ B.1 - 1; omega) hc (by omega) ⟨by simp, fun c hc => by simp at hc⟩ (fun w p o t h => hQ' (w, p, o, t) h)) (fun u hu => ?_))
    have hr2 : rig (bs.set x []) := fun k h6 h10 => by rw [getD_set_ne (by omega)]; exact hr k h6 h10
    have h02 : ∀ y, y < x + 1 → (bs.set x []).getD y [] = [] := fun y hy => by
      by_cases e : x = y
      · subst e; exact getD_set_eq (by omega)
      · rw [getD_set_ne e]; exact h0 y (by omega)
    iterate 6 refine hX ?_
    rw [nbit hb (by omega)]
    have next := ih (x + 1) (by omega) (bs.set x []) u.1 u.2.1 u.2.2.1 u.2.2.2
    rw [List.range_succ, List.filter_append, show List.filter (bt b) [x] = if bt b x = true then [x] else [] by rw [List.filter_cons, List.filter_nil]] at next
    cases hbx : bt b x with
    | true =>
      rw [hbx] at next
      refine And.intro (fun h => absurd h (show ¬ ((1 : Int32) = 0) by decide)) (fun _ => ?_)
      iterate 6 refine hX ?_
      refine And.intro (vp_in_nI (by omega) (by omega)) ?_
      rw [nI_clamp (by omega)]
      iterate 8 refine hX ?_
      rw [show nI x + 1 = nI (x + 1) from (nI_succ x).symm]
      have := next (stn.set ((List.range x).filter (bt b)).length (nI x)) hu hr2 h02 (by rw [List.length_set]; exact hs) (fun i hi => by
        simp only [if_true, List.length_append, List.length_singleton] at hi ⊢
        by_cases e : i = ((List.range x).filter (bt b)).length
        · subst e
          rw [getD_set_eq (by omega), getD_app2]
        · rw [getD_set_ne (fun q => e q.symm), getD_app1 (by omega)]
          exact hst i (by omega))
      simp only [if_true, List.length_append, List.length_singleton] at this
      rw [show nI ((List.range x).filter (bt b)).length + 1 = nI (((List.range x).filter (bt b)).length + 1) from (nI_succ _).symm]
      exact this
    | false =>
      rw [hbx] at next
      simp only [Bool.false_eq_true, if_false, List.append_nil] at next
      refine And.intro (fun _ => ?_) (fun h => absurd rfl h)
      iterate 2 refine hX ?_
      rw [show nI x + 1 = nI (x + 1) from (nI_succ x).symm]
      exact next stn hu hr2 h02 hs hst
def lsP (l : List Int32) (q : Nat × Nat) : Int32 := lsv (flb (tmL l q.1) 0 ||| flb (tmL l q.2) 0) 6
theorem t_prep2 (hX : Cl sc X) (hB : 4 ≤ B.1) (hS : SC E P L S N D C lf rt bw bf kn sn) {a1 : Int32} {w p o t sz pl gw stn ws : List Int32} (hq : ∀ lst, lst.length = 20 → (∀ i, i < P.length → lst.getD i 0 = lsP E.flatten (P.getD i (0, 0))) → Q none (SeW L S N D C (nI E.length) tt lf rt (nI P.length) bw bf bn w p o t kn sn sz pl gw us stn lst ws le ct kw)) :
    ∀ (n i : Nat), i + n = P.length → ∀ (lst : List Int32), lst.length = 20 → (∀ j, j < i → lst.getD j 0 = lsP E.flatten (P.getD j (0, 0))) → X B 68 74 [some (.ref 0), some (.int a1), some (.int (nI i))] [] (SeW L S N D C (nI E.length) tt lf rt (nI P.length) bw bf bn w p o t kn sn sz pl gw us stn lst ws le ct kw) Q := by
  obtain ⟨⟨s1, s2, s3, s4⟩, ⟨s5, s6⟩, -, s7, s8⟩ := id hS
  have hP20 := s5.1.2.2
  intro n
  induction n with
  | zero =>
    intro i hi lst hl hj
    have : i = P.length := by omega
    subst this
    iterate 4 refine hX ?_
    refine And.intro trivial (cP rP [.ref 0] (PaW L S N D C (nI E.length) tt lf rt (nI P.length)) (some (.int (nI P.length))) [.int (nI P.length), .int (nI P.length)] (by omega) rfl rfl rfl rfl (fun Q' hQ' => t_pcount hX hQ') ?_)
    refine hX (And.intro (fun _ => ?_) (fun h => absurd (Int32.le_refl _) h))
    refine hX ?_
    exact hq lst hl hj
  | succ n ih =>
    intro i hi lst hl hj
    iterate 4 refine hX ?_
    refine And.intro trivial (cP rP [.ref 0] (PaW L S N D C (nI E.length) tt lf rt (nI P.length)) (some (.int (nI P.length))) [.int (nI P.length), .int (nI i)] (by omega) rfl rfl rfl rfl (fun Q' hQ' => t_pcount hX hQ') ?_)
    refine hX (And.intro (fun h => absurd ((nle (by omega) (by omega)).mp h) (by omega)) (fun _ => ?_))
    iterate 3 refine hX ?_
    refine And.intro (fun h => absurd ((nle (a := 20) (by omega) (by omega)).mp h) (by omega)) (fun _ => ?_)
    iterate 7 refine hX ?_
    refine And.intro trivial (cP rP [.ref 0, .int (nI i)] (PaW L S N D C (nI E.length) tt lf rt (nI P.length)) (some (.int (lsP E.flatten (P.getD i (0, 0))))) [.int (lsP E.flatten (P.getD i (0, 0))), .int (nI i), .ref 25] (by omega) rfl rfl rfl rfl (fun Q' hQ' => t_lastFlex hX (by show 3 ≤ B.1 - 1; omega) s5 s1.1.1 s1.1.2.2.2 s1.2.1 s2 (by omega) (s6 _ (getD_mem (by omega))) hQ') ?_)
    refine hX (And.intro (vp_in_nI (by omega) (by omega)) ?_)
    rw [nI_clamp (by omega)]
    iterate 2 refine hX ?_
    rw [show nI i + 1 = nI (i + 1) from (nI_succ i).symm]
    refine ih (i + 1) (by omega) _ (by rw [List.length_set]; exact hl) (fun j hj2 => ?_)
    by_cases e : i = j
    · subst e
      exact getD_set_eq (by omega)
    · rw [getD_set_ne e]
      exact hj j (by omega)
theorem t_sprepare (hX : Cl sc X) (hB : 4 ≤ B.1) (hS : SC E P L S N D C lf rt bw bf kn sn) (htt : tt = nI E.flatten.length) {bs : List (List Nat)} {w p o t sz pl gw stn lst ws : List Int32} (hc : chR bs w p o t) (hr : rig bs) (hst : stn.length = 6) (hls : lst.length = 20) (hq : ∀ w p o t stn lst, chR bs0 w p o t → stn.length = 6 → (∀ i, i < (std E.flatten).length → stn.getD i 0 = nI ((std E.flatten).getD i 0)) → lst.length = 20 → (∀ i, i < P.length → lst.getD i 0 = lsP E.flatten (P.getD i (0, 0))) → Q none (SeW L S N D C (nI E.length) tt lf rt (nI P.length) bw bf bn w p o t kn sn sz pl gw us stn lst ws (nI (std E.flatten).length) ct kw)) : X B 68 0 [some (.ref 0), none, none] [] (SeW L S N D C (nI E.length) tt lf rt (nI P.length) bw bf bn w p o t kn sn sz pl gw us stn lst ws le ct kw) Q := by
  obtain ⟨⟨s1, s2, s3, s4⟩, ⟨s5, s6⟩, -, s7, s8⟩ := id hS
  have h40 := s1.1.2.2.2
  have f1 : ((L.drop 0).take E.flatten.length).foldl flS 0 = nI (flb E.flatten 0) := by
    rw [List.drop_zero, s1.2.1]
    exact flS_eq _ 0
  iterate 6 refine hX ?_
  refine And.intro trivial (cP rE [.ref 0] (EqW L S N D C (nI E.length) tt) (some (.int tt)) [.int tt, .int 0, .ref 1] (by omega) rfl rfl rfl rfl (fun Q' hQ' => t_total hX hQ') ?_)
  rw [htt]
  refine hX (And.intro trivial (cP rE [.ref 0, .int (nI 0), .int (nI E.flatten.length)] (EqW L S N D C (nI E.length) (nI E.flatten.length)) (some (.int (nI (flb E.flatten 0)))) [.int (nI (flb E.flatten 0))] (by omega) rfl rfl rfl rfl (fun Q' hQ' => t_flexIn hX (by show 2 ≤ B.1 - 1; omega) s1.1.1 (by omega) (by rw [f1]; exact hQ')) ?_))
  iterate 6 refine hX ?_
  rw [htt] at hq
  refine t_prep1 hX (by omega) (flb_lt _ 0 (by omega)) (fun w p o t stn a b c => ?_) 6 0 rfl bs w p o t stn hc hr (fun y hy => by omega) hst (fun i hi => by simp at hi)
  iterate 2 refine hX ?_
  exact t_prep2 hX hB hS (fun lst d e => hq w p o t stn lst a b c d e) P.length 0 (by omega) lst hls (fun j hj => by omega)
theorem LgetD {l L : List Int32} (h : L.take l.length = l) {q : Nat} (hq : q < l.length) : L.getD q 0 = l.getD q 0 := by
  conv => rhs; rw [← h]
  rw [getD_take hq]
theorem pOK_lt {l : List Int32} {z : Nat × Nat} (h : pOK l z) : z.1 < l.length ∧ z.2 < l.length := by
  obtain ⟨x, xr, y, yr, d1, d2, d3, d4, d5⟩ := h
  have k1 := congrArg List.length d1
  have k3 := congrArg List.length d3
  have := okF_pos d2 (by omega)
  have := okF_pos d4 (by omega)
  rw [List.length_drop, List.length_append] at k1 k3
  omega
theorem pkI_ncl (a b : Int32) : ¬ pkI a b = 1 ↔ fxI a = 1 ∨ fxI b = 1 := by
  rcases fxI_or a with h | h <;> rcases fxI_or b with g | g <;> rw [pkI, h, g] <;> decide
theorem hm1 {L l : List Int32} {P : List (Nat × Nat)} (hL : L.take l.length = l) (hP : ∀ z ∈ P, pOK l z) : hmN L P 1 = 0 ↔ ∀ z ∈ P, nclP l z := by
  rw [hmN, List.length_eq_zero_iff, List.filter_eq_nil_iff]
  have key : ∀ z ∈ P, (¬ decide ((1 : Int32) = 0 ∨ pkI (L.getD z.1 0) (L.getD z.2 0) = 1) = true) ↔ nclP l z := by
    intro z hz
    obtain ⟨a, b⟩ := pOK_lt (hP z hz)
    rw [LgetD hL a, LgetD hL b, nclP, ← pkI_ncl, decide_eq_true_eq]
    constructor
    · exact fun h q => h (Or.inr q)
    · rintro h (q | q)
      · exact absurd q (by decide)
      · exact h q
  exact ⟨fun h z hz => (key z hz).mp (h z hz), fun h z hz => (key z hz).mpr (h z hz)⟩
theorem vC_of {bs : List (List Nat)} (hr : rig bs) {st : List Nat} (hc : chs bs st) {c : Int32} (hk : ¬ kdI c = -1) (hf : fxI c = 1 → kN c ∈ st) : vC bs c := by
  refine ⟨bv_rig hr hc hk hf, ?_⟩
  by_cases h : fxI c = 1
  · exact (hc _ (hf h)).2
  · rw [hr _ (kN_rig hk h) (kN_ok hk).2]
    have key : ∀ k, k < 10 → 6 ≤ k → okC (bs0.getD k []) 1 = true := by decide
    exact key _ (kN_ok hk).2 (kN_rig hk h)
/-- what was laid is what the search wants, where no PAIR clashes -/
theorem laid (hS : SC E P L S N D C lf rt bw bf kn sn) (hP : P = prs E.flatten E 0) (hcl : ∀ z ∈ P, nclP E.flatten z) {stn lst : List Int32} (hst : stn.length = 6) (h1 : ∀ i, i < (std E.flatten).length → stn.getD i 0 = nI ((std E.flatten).getD i 0)) (hls : lst.length = 20) (h2 : ∀ i, i < P.length → lst.getD i 0 = lsP E.flatten (P.getD i (0, 0))) : LKh E P (std E.flatten) (fun i => (lst.getD i 0).toNatClampNeg) stn lst (slv · E) := by
  obtain ⟨⟨s1, s2, s3, s4⟩, ⟨s5, s6⟩, -, s7, s8⟩ := id hS
  obtain ⟨t1, t2, t3, t4⟩ := std_ok E.flatten
  refine ⟨⟨t1, hst, hls, t2, t3, h1⟩, t4, fun i hi => ?_, fun bs hr hc => ?_⟩
  · have hm := getD_mem (l := P) (d := (0, 0)) hi
    have hok := s6 _ hm
    obtain ⟨g1, g2⟩ := pOK_lt hok
    have hn := hcl _ hm
    obtain ⟨x, xr, y, yr, d1, d2, d3, d4, d5⟩ := hok
    have hb : ∀ z, bt (flb (tmL E.flatten (P.getD i (0, 0)).1) 0 ||| flb (tmL E.flatten (P.getD i (0, 0)).2) 0) z = true ↔ (∃ c ∈ tmL E.flatten (P.getD i (0, 0)).1, fxI c = 1 ∧ kN c = z) ∨ ∃ c ∈ tmL E.flatten (P.getD i (0, 0)).2, fxI c = 1 ∧ kN c = z := by
      intro z
      rw [bt_eq, Nat.testBit_or, Bool.or_eq_true, ← bt_eq, ← bt_eq, bt_mem, bt_mem]
    have hx0 : E.flatten.getD (P.getD i (0, 0)).1 0 ∈ tmL E.flatten (P.getD i (0, 0)).1 := by
      have := okF_pos d2 (by omega)
      rw [tmL_eq d1 d2]
      cases x with
      | nil => simp at this
      | cons c x => rw [(drop_head d1).2.1]; exact List.mem_cons_self
    have hy0 : E.flatten.getD (P.getD i (0, 0)).2 0 ∈ tmL E.flatten (P.getD i (0, 0)).2 := by
      have := okF_pos d4 (by omega)
      rw [tmL_eq d3 d4]
      cases y with
      | nil => simp at this
      | cons c x => rw [(drop_head d3).2.1]; exact List.mem_cons_self
    show lst.getD i 0 = nI (lst.getD i 0).toNatClampNeg ∧ (lst.getD i 0).toNatClampNeg ∈ std E.flatten ∧ (∀ c ∈ tmL E.flatten (P.getD i (0, 0)).1, fxI c = 1 → kN c ≤ (lst.getD i 0).toNatClampNeg) ∧ (∀ c ∈ tmL E.flatten (P.getD i (0, 0)).2, fxI c = 1 → kN c ≤ (lst.getD i 0).toNatClampNeg)
    rw [h2 i hi, lsP]
    rcases lsv_spec (flb (tmL E.flatten (P.getD i (0, 0)).1) 0 ||| flb (tmL E.flatten (P.getD i (0, 0)).2) 0) 6 with g | ⟨z, z1, z2, z3, z4⟩
    · exfalso
      rcases hn with h | h
      · have := g _ (fx_kN h).2.2
        rw [(hb _).mpr (Or.inl ⟨_, hx0, h, rfl⟩)] at this
        cases this
      · have := g _ (fx_kN h).2.2
        rw [(hb _).mpr (Or.inr ⟨_, hy0, h, rfl⟩)] at this
        cases this
    · rw [z2, nI_clamp (by omega)]
      refine ⟨rfl, ?_, fun c hc hf => z4 _ (fx_kN hf).2.2 ((hb _).mpr (Or.inl ⟨c, hc, hf, rfl⟩)), fun c hc hf => z4 _ (fx_kN hf).2.2 ((hb _).mpr (Or.inr ⟨c, hc, hf, rfl⟩))⟩
      rcases (hb z).mp z3 with ⟨c, hc, hf, e⟩ | ⟨c, hc, hf, e⟩
      · rw [← e]; exact t4 c (tmL_mem hc) hf
      · rw [← e]; exact t4 c (tmL_mem hc) hf
  · obtain ⟨j1, -⟩ := prs_spec hr E.length E (Nat.le_refl _) 0 rfl s1.2.2.2 s1.1.2.2.2 (fun c hc2 => ⟨vC_of hr hc (s4 c hc2) (t4 c hc2), s4 c hc2⟩)
    show slv bs E = true ↔ _
    rw [j1]
    have e : (∀ e, e < E.length / 2 → (grw bs (E.flatten.drop (0 + pre E (2 * e)))).length ≤ 200) ↔ fitL E bs := by
      constructor
      · intro h e he; have := h e he; rw [Nat.zero_add] at this; exact this
      · intro h e he; rw [Nat.zero_add]; exact h e he
    rw [e, ← hP]
    constructor
    · rintro ⟨a, b⟩
      exact ⟨a, fun i hi => (b _ (getD_mem hi)).2⟩
    · rintro ⟨a, b⟩
      refine ⟨a, fun z hz => ⟨hcl z hz, ?_⟩⟩
      obtain ⟨i, hi, e⟩ := List.mem_iff_getElem.mp hz
      have := b i hi
      rw [List.getD_eq_getElem?_getD, List.getElem?_eq_getElem hi] at this
      rw [← e]; exact this
theorem enum_ok {st : List Nat} (h1 : st.Pairwise (· < ·)) (h2 : ∀ y ∈ st, y < 6) {s : Nat} (hs : st.length ≤ s ∧ s ≤ 6) {bs : List (List Nat)} (h : bs ∈ enum st s bs0) : bs.length = 10 ∧ rig bs ∧ chs bs st ∧ ∀ y, y < 6 → y ∉ st → bs.getD y [] = [] := by
  obtain ⟨e1, e2, e3⟩ := enum_mem st s bs0 bs (h1.imp (fun h => by omega)) (fun y hy => by have := h2 y hy; show y < 10; omega) hs.1 hs.2 h
  refine ⟨e1, fun k h6 h10 => e2 k (fun q => by have := h2 k q; omega), e3, fun y hy hn => ?_⟩
  rw [e2 y hn]
  have : ∀ y, y < 6 → bs0.getD y [] = [] := by decide
  exact this y hy
theorem sols_clash (hS : SC E P L S N D C lf rt bw bf kn sn) (hP : P = prs E.flatten E 0) (hcl : ¬ ∀ z ∈ P, nclP E.flatten z) : sols E = [] := by
  obtain ⟨⟨s1, s2, s3, s4⟩, ⟨s5, s6⟩, -, s7, s8⟩ := id hS
  obtain ⟨t1, t2, t3, t4⟩ := std_ok E.flatten
  rw [sols, List.filter_eq_nil_iff.mpr, List.take_nil]
  intro bs hb hg
  rw [List.mem_flatMap] at hb
  obtain ⟨s, hs, hb⟩ := hb
  have hs2 := List.mem_range'_1.mp hs
  obtain ⟨-, hr, hc, -⟩ := enum_ok t2 t3 (s := s) (by omega) hb
  obtain ⟨j1, -⟩ := prs_spec hr E.length E (Nat.le_refl _) 0 rfl s1.2.2.2 s1.1.2.2.2 (fun c hc2 => ⟨vC_of hr hc (s4 c hc2) (t4 c hc2), s4 c hc2⟩)
  have := (j1.mp hg).2
  rw [← hP] at this
  exact hcl (fun z hz => (this z hz).1)
theorem t_found_loop (hX : Cl sc X) (hB : 13 ≤ B.1) (hS : SC E P L S N D C lf rt bw bf kn sn) {st : List Nat} {fl : Nat → Nat} {stn lst : List Int32} {g : List (List Nat) → Bool} (hK : LKh E P st fl stn lst g) :
    ∀ (n s : Nat), s + n = 7 → st.length ≤ s → ∀ (bs : List (List Nat)) (A : List (List (List Nat))) (w p o t sz pl gw : List Int32) (us : Int32) (ws : List Int32), LKs E bs A w p o t sz pl gw ws → (∀ y, y ∉ st → bs.getD y [] = bs0.getD y []) →
      (∀ bs' A' w p o t sz pl gw us ws, LKs E bs' A' w p o t sz pl gw ws → A' = (A ++ ((List.range' s n).flatMap fun s => enum st s bs0).filter g).take 40 → Q (some (.int (nI A'.length))) (SeW L S N D C (nI E.length) tt lf rt (nI P.length) bw bf bn w p o t kn sn sz pl gw us stn lst ws (nI st.length) (nI A'.length) kw)) →
      X B 64 49 [some (.ref 0), some (.int 6), some (.int (nI s))] [] (SeW L S N D C (nI E.length) tt lf rt (nI P.length) bw bf bn w p o t kn sn sz pl gw us stn lst ws (nI st.length) (nI A.length) kw) Q := by
  intro n
  induction n with
  | zero =>
    intro s hs hst bs A w p o t sz pl gw us ws hL hb hq
    iterate 3 refine hX ?_
    refine And.intro (fun _ => ?_) (fun h => absurd ((nlt (a := 6) (by omega) (by omega)).mpr (by omega)) h)
    iterate 3 refine hX ?_
    exact hq bs A w p o t sz pl gw us ws hL (by rw [List.range'_zero, List.flatMap_nil, List.filter_nil, List.append_nil, List.take_of_length_le hL.2.2.2.1])
  | succ n ih =>
    intro s hs hst bs A w p o t sz pl gw us ws hL hb hq
    have h6 := hK.1.1
    iterate 3 refine hX ?_
    refine And.intro (fun h => absurd ((nlt (a := 6) (by omega) (by omega)).mp h) (by omega)) (fun _ => ?_)
    iterate 4 refine hX ?_
    refine And.intro trivial (cMw [.ref 0, .int 0, .int (nI s)] (fun v : List (List Nat) × List (List (List Nat)) × List Int32 × List Int32 × List Int32 × List Int32 × List Int32 × List Int32 × List Int32 × Int32 × List Int32 => LKs E v.1 v.2.1 v.2.2.1 v.2.2.2.1 v.2.2.2.2.1 v.2.2.2.2.2.1 v.2.2.2.2.2.2.1 v.2.2.2.2.2.2.2.1 v.2.2.2.2.2.2.2.2.1 v.2.2.2.2.2.2.2.2.2.2 ∧ (∀ y, y ∉ st → v.1.getD y [] = bs.getD y []) ∧ v.2.1 = (A ++ (enum st s bs).filter g).take 40) (fun _ => none) (fun v => SeW L S N D C (nI E.length) tt lf rt (nI P.length) bw bf bn v.2.2.1 v.2.2.2.1 v.2.2.2.2.1 v.2.2.2.2.2.1 kn sn v.2.2.2.2.2.2.1 v.2.2.2.2.2.2.2.1 v.2.2.2.2.2.2.2.2.1 v.2.2.2.2.2.2.2.2.2.1 stn lst v.2.2.2.2.2.2.2.2.2.2 (nI st.length) (nI v.2.1.length) kw) (by omega) rfl rfl (fun _ => rfl) (fun _ => rfl) (fun _ => rfl) (fun Q' hQ' => t_look hX hS hK st [] rfl (B.1 - 1, 0, 0) s bs A w p o t sz pl gw us ws Q' (by show 6 + st.length ≤ B.1 - 1; omega) hst (by omega) hL (fun y hy => by simp at hy) (fun i hi hf => by simp at hf) (fun bs' A' w p o t sz pl gw us ws a b c => hQ' (bs', A', w, p, o, t, sz, pl, gw, us, ws) ⟨a, b, c⟩)) (fun v hv => ?_))
    obtain ⟨bs3, A3, w3, p3, o3, t3, sz3, pl3, gw3, us3, ws3⟩ := v
    obtain ⟨u1, u2, u3⟩ := hv
    dsimp only at u1 u2 u3
    iterate 2 refine hX ?_
    rw [show nI s + 1 = nI (s + 1) from (nI_succ s).symm]
    refine ih (s + 1) (by omega) (by omega) bs3 A3 w3 p3 o3 t3 sz3 pl3 gw3 us3 ws3 u1 (fun y hy => by rw [u2 y hy, hb y hy]) (fun bs' A' w p o t sz pl gw us ws a b => hq bs' A' w p o t sz pl gw us ws a ?_)
    rw [b, u3, take40, List.range'_succ, List.flatMap_cons, List.filter_append, enum_base st s bs bs0 (by rw [hL.1.1.1.1]; rfl) hb]
/-- SOLUTIONS that weren't looked for -/
theorem t_found0 (hX : Cl sc X) (hB : 13 ≤ B.1) (hS : SC E P L S N D C lf rt bw bf kn sn) (hP : P = prs E.flatten E 0) (htt : tt = nI E.flatten.length) {bs : List (List Nat)} {A : List (List (List Nat))} {w p o t sz pl gw stn lst ws : List Int32} (hL : LKs E bs A w p o t sz pl gw ws) (hst : stn.length = 6) (hls : lst.length = 20) (hq : ∀ bs w p o t sz pl gw us stn lst ws le, LKs E bs (sols E) w p o t sz pl gw ws → stn.length = 6 → lst.length = 20 → Q (some (.int (nI (sols E).length))) (SeW L S N D C (nI E.length) tt lf rt (nI P.length) bw bf bn w p o t kn sn sz pl gw us stn lst ws le (nI (sols E).length) 1)) : X B 64 0 [some (.ref 0), none, none] [] (SeW L S N D C (nI E.length) tt lf rt (nI P.length) bw bf bn w p o t kn sn sz pl gw us stn lst ws le ct 0) Q := by
  obtain ⟨⟨s1, s2, s3, s4⟩, ⟨s5, s6⟩, -, s7, s8⟩ := id hS
  have h40 := s1.1.2.2.2
  have hL0 : ∀ {w p o t}, chR bs0 w p o t → LKs E bs0 [] w p o t sz pl gw ws := fun h => ⟨⟨h, fun _ _ _ => rfl⟩, hL.2.1, slR_nil hL.2.2.1⟩
  iterate 3 refine hX ?_
  refine And.intro (fun _ => ?_) (fun h => absurd rfl h)
  iterate 3 refine hX ?_
  refine And.intro (Or.inr rfl) ?_
  iterate 5 refine hX ?_
  refine And.intro trivial (cMw [.ref 0] (fun v : List Int32 × List Int32 × List Int32 × List Int32 × List Int32 × List Int32 => chR bs0 v.1 v.2.1 v.2.2.1 v.2.2.2.1 ∧ v.2.2.2.2.1.length = 6 ∧ (∀ i, i < (std E.flatten).length → v.2.2.2.2.1.getD i 0 = nI ((std E.flatten).getD i 0)) ∧ v.2.2.2.2.2.length = 20 ∧ (∀ i, i < P.length → v.2.2.2.2.2.getD i 0 = lsP E.flatten (P.getD i (0, 0)))) (fun _ => none) (fun v => SeW L S N D C (nI E.length) tt lf rt (nI P.length) bw bf bn v.1 v.2.1 v.2.2.1 v.2.2.2.1 kn sn sz pl gw us v.2.2.2.2.1 v.2.2.2.2.2 ws (nI (std E.flatten).length) 0 1) (by omega) rfl rfl (fun _ => rfl) (fun _ => rfl) (fun _ => rfl) (fun Q' hQ' => t_sprepare hX (by show 4 ≤ B.1 - 1; omega) hS htt hL.1.1 hL.1.2 hst hls (fun w p o t stn lst a b c d e => hQ' (w, p, o, t, stn, lst) ⟨a, b, c, d, e⟩)) (fun v hv => ?_))
  obtain ⟨w2, p2, o2, t2, stn2, lst2⟩ := v
  obtain ⟨v1, v2, v3, v4, v5⟩ := hv
  dsimp only at v1 v2 v3 v4 v5
  iterate 4 refine hX ?_
  refine And.intro trivial (cP rP [.ref 0, .int 1] (PaW L S N D C (nI E.length) tt lf rt (nI P.length)) (some (.int (nI (hmN L P 1)))) [.int (nI (hmN L P 1))] (by omega) rfl rfl rfl rfl (fun Q' hQ' => t_howMany hX (by show 3 ≤ B.1 - 1; omega) s5 s1.1.1 (fun q hq2 => by have := pOK_lt (s6 q hq2); omega) hQ') ?_)
  have hle : hmN L P 1 ≤ 20 := by
    have := List.length_filter_le (fun q => decide ((1 : Int32) = 0 ∨ pkI (L.getD q.1 0) (L.getD q.2 0) = 1)) P
    have := s5.1.2.2
    show (P.filter _).length ≤ 20
    omega
  have h6 := (std_ok E.flatten).1
  refine hX (And.intro (fun h => ?_) (fun h => ?_))
  · have hcl := (hm1 s1.2.1 s6).mp ((neq (b := 0) (by omega) (by omega)).mp h)
    iterate 6 refine hX ?_
    refine t_found_loop hX hB hS (laid hS hP hcl v2 v3 v4 v5) (7 - (std E.flatten).length) (std E.flatten).length (by omega) (Nat.le_refl _) bs0 [] w2 p2 o2 t2 sz pl gw us ws (hL0 v1) (fun _ _ => rfl) (fun bs' A' w p o t sz pl gw us ws a b => ?_)
    rw [List.nil_append] at b
    have b2 : A' = sols E := b
    subst b2
    exact hq bs' w p o t sz pl gw us stn2 lst2 ws _ a v2 v4
  · have hcl : ¬ ∀ z ∈ P, nclP E.flatten z := fun q => h (by rw [(hm1 s1.2.1 s6).mpr q]; rfl)
    have e := sols_clash hS hP hcl
    iterate 8 refine hX ?_
    refine And.intro (fun _ => ?_) (fun h => absurd (Int32.lt_of_lt_of_le (show (-1 : Int32) < nI 0 by decide) ((nle (a := 0) (by omega) (by omega)).mpr (Nat.zero_le _))) h)
    iterate 3 refine hX ?_
    have := hq bs0 w2 p2 o2 t2 sz pl gw us stn2 lst2 ws (nI (std E.flatten).length) (by rw [e]; exact hL0 v1) v2 v4
    rw [e] at this
    exact this
theorem t_found1 (hX : Cl sc X) {sd cn : Int32} {w p o t sz pl gw stn lst ws : List Int32} (hq : Q (some (.int ct)) (SeW L S N D C sd tt lf rt cn bw bf bn w p o t kn sn sz pl gw us stn lst ws le ct 1)) : X B 64 0 [some (.ref 0), none, none] [] (SeW L S N D C sd tt lf rt cn bw bf bn w p o t kn sn sz pl gw us stn lst ws le ct 1) Q := by
  iterate 3 refine hX ?_
  refine And.intro (fun h => absurd h (by decide)) (fun _ => ?_)
  iterate 3 refine hX ?_
  exact hq
theorem t_forget (hX : Cl sc X) {sd cn : Int32} {w p o t sz pl gw stn lst ws : List Int32} (hq : Q none (SeW L S N D C sd tt lf rt cn bw bf bn w p o t kn sn sz pl gw us stn lst ws le ct 0)) : X B 63 0 [some (.ref 0)] [] (SeW L S N D C sd tt lf rt cn bw bf bn w p o t kn sn sz pl gw us stn lst ws le ct kw) Q := by
  iterate 3 refine hX ?_
  refine And.intro (Or.inl rfl) ?_
  refine hX ?_
  exact hq
theorem t_wordOf (hX : Cl sc X) {sd cn : Int32} {w p o t sz pl gw stn lst ws : List Int32} {A : List (List (List Nat))} (hA : slR A ws) {i x : Nat} (hi : i < A.length) (hx : x < 6) (hq : Q (some (.int (nI (wC ((A.getD i []).getD x []))))) (SeW L S N D C sd tt lf rt cn bw bf bn w p o t kn sn sz pl gw us stn lst ws le ct kw)) : X B 65 0 [some (.ref 0), some (.int (nI i)), some (.int (nI x))] [] (SeW L S N D C sd tt lf rt cn bw bf bn w p o t kn sn sz pl gw us stn lst ws le ct kw) Q := by
  have h40 := hA.2.1
  iterate 2 refine hX ?_
  refine And.intro (fun h1 => absurd h1 (nneg (by omega))) (fun _ => ?_)
  iterate 3 refine hX ?_
  refine And.intro (fun h => absurd ((nle (a := 40) (by omega) (by omega)).mp h) (by omega)) (fun _ => ?_)
  iterate 2 refine hX ?_
  refine And.intro (fun h1 => absurd h1 (nneg (by omega))) (fun _ => ?_)
  iterate 3 refine hX ?_
  refine And.intro (fun h => absurd ((nle (a := 6) (by omega) (by omega)).mp h) (by omega)) (fun _ => ?_)
  iterate 8 refine hX ?_
  rw [show nI i * 6 = nI (i * 6) from nmul _ 6, nadd]
  refine And.intro (vp_in_nI (by rw [hA.1]; omega) (by rw [hA.1]; omega)) ?_
  rw [nI_clamp (by omega), hA.2.2 i x hi hx]
  iterate 2 refine hX ?_
  exact hq
/-- how many letters a CHOICE has together -/
def szB (bs : List (List Nat)) (x : Nat) : Nat := ((List.range x).map fun y => (bs.getD y []).length).sum
theorem szB_succ (bs : List (List Nat)) (x : Nat) : szB bs (x + 1) = szB bs x + (bs.getD x []).length := by
  rw [szB, List.range_succ, List.map_append, List.sum_append, szB]
  simp
theorem szB_le {bs : List (List Nat)} (h : ∀ y, y < 6 → bOk (bs.getD y [])) : ∀ x, x ≤ 6 → szB bs x ≤ 6 * x
  | 0, _ => Nat.zero_le _
  | x + 1, hx => by
    rw [szB_succ]
    have := szB_le h x (by omega)
    have := (h x (by omega)).1
    omega
theorem t_sizeOf_loop (hX : Cl sc X) (hB : 2 ≤ B.1) {sd cn : Int32} {w p o t sz pl gw stn lst ws : List Int32} {A : List (List (List Nat))} (hA : slR A ws) {i : Nat} (hi : i < A.length) (hok : ∀ y, y < 6 → bOk ((A.getD i []).getD y [])) (hq : Q (some (.int (nI (szB (A.getD i []) 6)))) (SeW L S N D C sd tt lf rt cn bw bf bn w p o t kn sn sz pl gw us stn lst ws le ct kw)) :
    ∀ (n x : Nat), x + n = 6 → X B 66 4 [some (.ref 0), some (.int (nI i)), some (.int (nI (szB (A.getD i []) x))), some (.int (nI x))] [] (SeW L S N D C sd tt lf rt cn bw bf bn w p o t kn sn sz pl gw us stn lst ws le ct kw) Q := by
  intro n
  induction n with
  | zero =>
    intro x hx
    have : x = 6 := by omega
    subst this
    iterate 3 refine hX ?_
    refine And.intro (fun _ => ?_) (fun h => absurd (by decide) h)
    iterate 2 refine hX ?_
    exact hq
  | succ n ih =>
    intro x hx
    iterate 3 refine hX ?_
    refine And.intro (fun h => absurd ((nle (a := 6) (by omega) (by omega)).mp h) (by omega)) (fun _ => ?_)
    iterate 5 refine hX ?_
    refine And.intro trivial (cPw [.ref 0, .int (nI i), .int (nI x)] (some (.int (nI (wC ((A.getD i []).getD x []))))) (by omega) rfl rfl rfl (fun Q' hQ' => t_wordOf hX hA hi (by omega) hQ') ?_)
    refine hX (cP [] [.int (nI (wC ((A.getD i []).getD x [])))] [] (some (.int (nI ((A.getD i []).getD x []).length))) [.int (nI ((A.getD i []).getD x []).length), .int (nI (szB (A.getD i []) x))] (by omega) rfl rfl rfl rfl (fun Q' hQ' => t_lettersIn hX (by show 1 ≤ B.1 - 1; omega) (hok x (by omega)) hQ') ?_)
    iterate 4 refine hX ?_
    rw [nadd, ← szB_succ, show nI x + 1 = nI (x + 1) from (nI_succ x).symm]
    exact ih (x + 1) (by omega)
theorem t_sizeOf (hX : Cl sc X) (hB : 2 ≤ B.1) {sd cn : Int32} {w p o t sz pl gw stn lst ws : List Int32} {A : List (List (List Nat))} (hA : slR A ws) {i : Nat} (hi : i < A.length) (hok : ∀ y, y < 6 → bOk ((A.getD i []).getD y [])) (hq : Q (some (.int (nI (szB (A.getD i []) 6)))) (SeW L S N D C sd tt lf rt cn bw bf bn w p o t kn sn sz pl gw us stn lst ws le ct kw)) : X B 66 0 [some (.ref 0), some (.int (nI i)), none, none] [] (SeW L S N D C sd tt lf rt cn bw bf bn w p o t kn sn sz pl gw us stn lst ws le ct kw) Q := by
  iterate 4 refine hX ?_
  exact t_sizeOf_loop hX hB hA hi hok hq 6 0 rfl
theorem t_stake_loop (hX : Cl sc X) (hB : 3 ≤ B.1) {sd cn : Int32} {sz pl gw stn lst ws : List Int32} {A : List (List (List Nat))} (hA : slR A ws) {i : Nat} (hi : i < A.length) (hok : ∀ y, y < 6 → bOk ((A.getD i []).getD y [])) (hl : (A.getD i []).length = 10 ∧ rig (A.getD i [])) (hq : ∀ w p o t, chR (A.getD i []) w p o t → Q none (SeW L S N D C sd tt lf rt cn bw bf bn w p o t kn sn sz pl gw us stn lst ws le ct kw)) :
    ∀ (n x : Nat), x + n = 6 → ∀ (bs : List (List Nat)) (w p o t : List Int32), chR bs w p o t → rig bs → (∀ y, y < x → bs.getD y [] = (A.getD i []).getD y []) → X B 67 2 [some (.ref 0), some (.int (nI i)), some (.int (nI x))] [] (SeW L S N D C sd tt lf rt cn bw bf bn w p o t kn sn sz pl gw us stn lst ws le ct kw) Q := by
  intro n
  induction n with
  | zero =>
    intro x hx bs w p o t hc hr hy
    have : x = 6 := by omega
    subst this
    have e : bs = A.getD i [] := ext_getD [] (by rw [hc.1.1, hl.1]) (fun y => by
      by_cases h : y < 6
      · exact hy y h
      · by_cases h10 : y < 10
        · rw [hr y (by omega) h10, hl.2 y (by omega) h10]
        · rw [getD_out (by rw [hc.1.1]; omega), getD_out (by rw [hl.1]; omega)])
    rw [e] at hc
    iterate 3 refine hX ?_
    refine And.intro (fun _ => ?_) (fun h => absurd (by decide) h)
    refine hX ?_
    exact hq w p o t hc
  | succ n ih =>
    intro x hx bs w p o t hc hr hy
    have hl10 := hc.1.1
    iterate 3 refine hX ?_
    refine And.intro (fun h => absurd ((nle (a := 6) (by omega) (by omega)).mp h) (by omega)) (fun _ => ?_)
    iterate 7 refine hX ?_
    refine And.intro trivial (cPw [.ref 0, .int (nI i), .int (nI x)] (some (.int (nI (wC ((A.getD i []).getD x []))))) (by omega) rfl rfl rfl (fun Q' hQ' => t_wordOf hX hA hi (by omega) hQ') ?_)
    refine hX (And.intro trivial (cMs rG [.ref 0, .int (nI x), .int (nI (wC ((A.getD i []).getD x [])))] (GrW L S N D C sd tt w p o t kn sn sz pl gw us) (fun u : List Int32 × List Int32 × List Int32 × List Int32 => chR (bs.set x ((A.getD i []).getD x [])) u.1 u.2.1 u.2.2.1 u.2.2.2) (fun _ => none) (fun u => GrW L S N D C sd tt u.1 u.2.1 u.2.2.1 u.2.2.2 kn sn sz pl gw us) (fun u => SeW L S N D C sd tt lf rt cn bw bf bn u.1 u.2.1 u.2.2.1 u.2.2.2 kn sn sz pl gw us stn lst ws le ct kw) (by omega) rfl rfl rfl (fun _ => rfl) (fun _ => rfl) (fun _ => rfl) (fun Q' hQ' => t_gtake hX (by show 2 ≤ B.1 - 1; omega) hc (by omega) (hok x (by omega)) (fun w p o t h => hQ' (w, p, o, t) h)) (fun u hu => ?_)))
    iterate 2 refine hX ?_
    rw [show nI x + 1 = nI (x + 1) from (nI_succ x).symm]
    refine ih (x + 1) (by omega) _ u.1 u.2.1 u.2.2.1 u.2.2.2 hu (fun k h6 h10 => by rw [getD_set_ne (by omega)]; exact hr k h6 h10) (fun y hy2 => ?_)
    by_cases e : x = y
    · subst e; exact getD_set_eq (by omega)
    · rw [getD_set_ne e]; exact hy y (by omega)
theorem t_stake (hX : Cl sc X) (hB : 3 ≤ B.1) {sd cn : Int32} {w p o t sz pl gw stn lst ws : List Int32} {A : List (List (List Nat))} (hA : slR A ws) {i : Nat} (hi : i < A.length) (hok : ∀ y, y < 6 → bOk ((A.getD i []).getD y [])) (hl : (A.getD i []).length = 10 ∧ rig (A.getD i [])) {bs : List (List Nat)} (hc : chR bs w p o t) (hr : rig bs) (hq : ∀ w p o t, chR (A.getD i []) w p o t → Q none (SeW L S N D C sd tt lf rt cn bw bf bn w p o t kn sn sz pl gw us stn lst ws le ct kw)) : X B 67 0 [some (.ref 0), some (.int (nI i)), none] [] (SeW L S N D C sd tt lf rt cn bw bf bn w p o t kn sn sz pl gw us stn lst ws le ct kw) Q := by
  iterate 2 refine hX ?_
  exact t_stake_loop hX hB hA hi hok hl hq 6 0 rfl bs w p o t hc hr (fun y hy => by omega)
end SR
