/-! The model: SOLUTIONS. -/
theorem szB_set {bs : List (List Nat)} {x : Nat} {b : List Nat} (hx : x < bs.length) (h0 : bs.getD x [] = []) : ∀ n, szB (bs.set x b) n = szB bs n + (if x < n then b.length else 0)
  | 0 => by rw [if_neg (by omega)]; rfl
  | n + 1 => by
    rw [szB_succ, szB_succ, szB_set hx h0 n]
    by_cases e : x = n
    · subst e
      rw [getD_set_eq hx, h0, if_neg (by omega), if_pos (by omega), List.length_nil]
    · rw [getD_set_ne e]
      by_cases h : x < n
      · rw [if_pos h, if_pos (by omega)]; omega
      · rw [if_neg h, if_neg (by omega)]; omega
theorem enum_sz : ∀ (r : List Nat) (left : Nat) (bs bs2 : List (List Nat)), r.Nodup → (∀ y ∈ r, y < 6 ∧ bs.getD y [] = []) → bs.length = 10 → r.length ≤ left → bs2 ∈ enum r left bs → szB bs2 6 = szB bs 6 + left
  | [], left, bs, bs2, _, _, _, _, h => by
    rw [enum] at h
    split at h
    · rename_i h0
      rw [List.mem_singleton] at h
      rw [h, h0]
      rfl
    · simp at h
  | x :: r, left, bs, bs2, hn, hy, hl, hle, h => by
    rw [enum, List.mem_flatMap] at h
    obtain ⟨s, hs, h⟩ := h
    rw [List.mem_flatMap] at h
    obtain ⟨b, hb, h⟩ := h
    have hbl := (spF_ok s 1 b hb).1
    obtain ⟨hx6, hx0⟩ := hy x List.mem_cons_self
    rw [List.nodup_cons] at hn
    rw [List.length_cons] at hle
    rw [List.mem_range'_1] at hs
    have hsl : s ≤ left - r.length := by
      split at hs <;> omega
    have := enum_sz r (left - s) (bs.set x b) bs2 hn.2 (fun y hyr => by
      obtain ⟨a1, a2⟩ := hy y (List.mem_cons_of_mem _ hyr)
      refine ⟨a1, ?_⟩
      rw [getD_set_ne (fun q => hn.1 (by rw [q]; exact hyr))]
      exact a2) (by rw [List.length_set]; exact hl) (by omega) h
    rw [this, szB_set (by omega) hx0, if_pos hx6, hbl]
    omega
theorem pw_nodup : ∀ (l : List Nat), l.Pairwise (· < ·) → l.Nodup
  | [], _ => List.nodup_nil
  | a :: l, h => by
    rw [List.pairwise_cons] at h
    rw [List.nodup_cons]
    exact ⟨fun q => Nat.lt_irrefl _ (h.1 a q), pw_nodup l h.2⟩
theorem good_enum {E : List (List Int32)} (hg : gE E) {s : Nat} (h1 : (std E.flatten).length ≤ s) (h2 : s ≤ 6) {bs : List (List Nat)} (h : bs ∈ enum (std E.flatten) s bs0) : goodC E s bs := by
  obtain ⟨t1, t2, t3, t4⟩ := std_ok E.flatten
  obtain ⟨e1, e2, e3, e4⟩ := enum_ok t2 t3 ⟨h1, h2⟩ h
  refine ⟨?_, e2, fun c hc => bv_rig e2 e3 (hg.2.2 c hc) (t4 c hc)⟩
  have key : ∀ y, y < 6 → bs0.getD y [] = [] := by decide
  rw [enum_sz _ s bs0 bs (pw_nodup _ t2) (fun y hy => ⟨t3 y hy, key y (t3 y hy)⟩) rfl h1 h, show szB bs0 6 = 0 by decide, Nat.zero_add]
def lnS (ch sd pk sv sz hpz pl sg bu : List Int32) : Prop := ch.length = 6 ∧ sd.length = 6 ∧ pk.length = 6 ∧ sv.length = 240 ∧ sz.length = 40 ∧ scS hpz pl sg bu
section MP
variable {sc : List Int32} {X : pX} {B : pB} {Q : pQ} {nw fr pa rf tx bo ss op wr f1 f2 ch sd pk sv sz hpz pl sg bu : List Int32} {st ln ai fi dp wm pm sm vm wt : Int32} {hsh : Int64}
theorem m_goesThrough (hX : Cl sc X) (hB : 10 ≤ B.1) {E : List (List Int32)} (hg : gE E) {x : Nat} {r : List Nat} (hxr : std E.flatten = x :: r) (hst : sdR (x :: r) sd) (hss : ssR 21 ss) (hbo : tbB (BTf 18) bo) {s0 : Nat} (h1 : r.length + 1 ≤ s0) (h2 : s0 ≤ 6) (hch : chX (x :: r) bs0 ch) (hpk : pk.length = 6) (hsc : scS hpz pl sg bu) {A : List (List (List Nat))} (hA : slB A sv sz) (hq : ∀ ch pk sv sz hpz pl sg bu wt, chX (x :: r) bs0 ch → pk.length = 6 → scS hpz pl sg bu → slB ((A ++ (enum (x :: r) s0 bs0).filter (slv · E)).take 40) sv sz → Q none (MW (rowE E) fr pa st rf tx ln bo ss ai fi op dp wr wm f1 f2 pm ch sd (nI (x :: r).length) pk sv sz (nI ((A ++ (enum (x :: r) s0 bs0).filter (slv · E)).take 40).length) hpz pl sg wt bu hsh)) : X B 176 0 [some (.ref 0), some (.int (nI s0)), none, none] [] (MW (rowE E) fr pa st rf tx ln bo ss ai fi op dp wr wm f1 f2 pm ch sd (nI (x :: r).length) pk sv sz (nI A.length) hpz pl sg wt bu hsh) Q := by
  obtain ⟨t1, t2, t3, t4⟩ := std_ok E.flatten
  rw [hxr] at t1 t2 t3
  have hx6 := t3 x List.mem_cons_self
  have hsd := hst.1
  have hs0 : sd.getD 0 0 = nI x := hst.2 0 (by simp)
  have h40 := hA.1.2.2
  iterate 14 refine hX ?_
  refine And.intro (vp_in_nI (n := 0) (by omega) (by omega)) ?_
  rw [show Int32.toNatClampNeg 0 = 0 from rfl, hs0]
  iterate 2 refine hX ?_
  refine And.intro (by decide) ?_
  rw [show nI x - nI x / 3 * 3 = nI (x % 3) from nrem (b := 3) (by omega) (by omega) (by omega)]
  iterate 2 refine hX ?_
  rw [show (7 : Int32) * nI (x % 3) = nI (7 * (x % 3) + 0) by rw [show (7 : Int32) = nI 7 from rfl, nmul]; rfl]
  refine And.intro (vp_in_nI (by rw [hss.1]; omega) (by rw [hss.1]; omega)) ?_
  rw [nI_clamp (by omega), ss_at hss (by omega) (by omega)]
  iterate 3 refine hX ?_
  refine And.intro (vp_in_nI (n := 0) (by omega) (by omega)) ?_
  rw [show Int32.toNatClampNeg 0 = 0 from rfl]
  have key : ∀ y, y < 6 → bs0.getD y [] = [] := by decide
  refine m_level hX hB hg hst t1 (pw_nodup _ t2) t3 hss hbo hq r x [] rfl s0 h1 h2 bs0 rfl (fun y hy _ => key y hy) [] [] (fun A ch pk sv sz hpz pl sg bu wt z1 z2 z3 z4 z5 z6 => ?_) _ (sS (x % 3) 0) A ch _ sv sz hpz pl sg bu wt (sS_le (by omega) (by omega)) rfl (cds_ok h1 h2) hch (by rw [List.length_set]; exact hpk) (by rw [List.length_nil, getD_set_eq (by omega)]) (fun i hi => by simp at hi) hsc hA (fun bs2 hb2 => ?_) ?_
  · iterate 4 refine hX ?_
    refine And.intro (fun _ => ?_) (fun h => absurd (by decide) h)
    iterate 6 refine hX ?_
    refine And.intro (fun _ => ?_) (fun h => absurd (by decide) h)
    refine hX ?_
    rw [List.filter_nil, List.append_nil, List.take_of_length_le z5.1.2.2] at z6
    rw [z6] at hq
    exact hq ch pk sv sz hpz pl sg bu wt z1 z2 z4 z5
  · rw [← enum_cds h1 h2] at hb2
    rw [← hxr] at hb2
    exact good_enum hg (by rw [hxr, List.length_cons]; exact h1) h2 hb2
  · rw [List.append_nil, ← enum_cds h1 h2]
theorem m_zero (hX : Cl sc X) (hq : ∀ ch', ch'.length = 6 → (∀ q, q < 6 → ch'.getD q 0 = 0) → X B 177 30 [some (.ref 0), some (.int (nI 6))] [] (MW nw fr pa st rf tx ln bo ss ai fi op dp wr wm f1 f2 pm ch' sd sm pk sv sz vm hpz pl sg wt bu hsh) Q) : ∀ (n k : Nat), k + n = 6 → ∀ (f : List Int32), f.length = 6 → (∀ q, q < k → f.getD q 0 = 0) → X B 177 11 [some (.ref 0), some (.int (nI k))] [] (MW nw fr pa st rf tx ln bo ss ai fi op dp wr wm f1 f2 pm f sd sm pk sv sz vm hpz pl sg wt bu hsh) Q := by
  intro n
  induction n with
  | zero =>
    intro k hk f h1 h2
    have : k = 6 := by omega
    subst this
    iterate 3 refine hX ?_
    refine And.intro (fun _ => ?_) (fun h => absurd (by decide) h)
    exact hq f h1 h2
  | succ n ih =>
    intro k hk f h1 h2
    iterate 3 refine hX ?_
    refine And.intro (fun h => absurd ((nle (a := 6) (by omega) (by omega)).mp h) (by omega)) (fun _ => ?_)
    iterate 5 refine hX ?_
    refine And.intro (vp_in_nI (by omega) (by omega)) ?_
    rw [nI_clamp (by omega)]
    iterate 2 refine hX ?_
    rw [show nI k + 1 = nI (k + 1) from (nI_succ k).symm]
    refine ih (k + 1) (by omega) _ (by rw [List.length_set]; exact h1) (fun q hq2 => ?_)
    by_cases e : k = q
    · subst e
      rw [getD_set_eq (by omega)]
    · rw [getD_set_ne e, h2 q (by omega)]
/-- SOLUTIONS of less than a SIZE -/
def solsB (E : List (List Int32)) (s : Nat) : List (List (List Nat)) := (((List.range' (std E.flatten).length (s - (std E.flatten).length)).flatMap fun s => enum (std E.flatten) s bs0).filter (slv · E)).take 40
theorem solsB_step {E : List (List Int32)} {s : Nat} (h : (std E.flatten).length ≤ s) : solsB E (s + 1) = (solsB E s ++ (enum (std E.flatten) s bs0).filter (slv · E)).take 40 := by
  rw [solsB, solsB, show s + 1 - (std E.flatten).length = (s - (std E.flatten).length) + 1 by omega, List.range'_1_concat, List.flatMap_append, List.filter_append, show (std E.flatten).length + (s - (std E.flatten).length) = s by omega]
  have := take40 [] (((List.range' (std E.flatten).length (s - (std E.flatten).length)).flatMap fun s => enum (std E.flatten) s bs0).filter (slv · E)) ((enum (std E.flatten) s bs0).filter (slv · E))
  rw [List.nil_append, List.nil_append] at this
  rw [this]
  simp
theorem m_sizes (hX : Cl sc X) (hB : 11 ≤ B.1) {E : List (List Int32)} (hg : gE E) {x : Nat} {r : List Nat} (hxr : std E.flatten = x :: r) (hst : sdR (x :: r) sd) (hss : ssR 21 ss) (hbo : tbB (BTf 18) bo) (hq : ∀ ch pk sv sz hpz pl sg bu wt, ch.length = 6 → pk.length = 6 → scS hpz pl sg bu → slB (sols E) sv sz → Q none (MW (rowE E) fr pa st rf tx ln bo ss ai fi op dp wr wm f1 f2 pm ch sd (nI (x :: r).length) pk sv sz (nI (sols E).length) hpz pl sg wt bu hsh)) : ∀ (n s : Nat), s + n = 7 → r.length + 1 ≤ s → ∀ (ch pk sv sz hpz pl sg bu : List Int32) (wt : Int32), chX (x :: r) bs0 ch → pk.length = 6 → scS hpz pl sg bu → slB (solsB E s) sv sz → X B 177 47 [some (.ref 0), some (.int (nI s))] [] (MW (rowE E) fr pa st rf tx ln bo ss ai fi op dp wr wm f1 f2 pm ch sd (nI (x :: r).length) pk sv sz (nI (solsB E s).length) hpz pl sg wt bu hsh) Q := by
  have t1 := (std_ok E.flatten).1
  rw [hxr, List.length_cons] at t1
  intro n
  induction n with
  | zero =>
    intro s hs hrs ch pk sv sz hpz pl sg bu wt hch hpk hsc hA
    have : s = 7 := by omega
    subst this
    have e : solsB E 7 = sols E := rfl
    rw [e] at hA ⊢
    iterate 3 refine hX ?_
    refine And.intro (fun _ => ?_) (fun h => absurd (by decide) h)
    refine hX ?_
    exact hq ch pk sv sz hpz pl sg bu wt hch.1 hpk hsc hA
  | succ n ih =>
    intro s hs hrs ch pk sv sz hpz pl sg bu wt hch hpk hsc hA
    iterate 3 refine hX ?_
    refine And.intro (fun h => absurd ((nlt (a := 6) (by omega) (by omega)).mp h) (by omega)) (fun _ => ?_)
    iterate 3 refine hX ?_
    refine And.intro (fun h => absurd ((nle (b := 0) (by rw [List.length_cons]; omega) (by omega)).mp h) (by simp)) (fun _ => ?_)
    iterate 3 refine hX ?_
    have hstep := solsB_step (E := E) (s := s) (by rw [hxr, List.length_cons]; omega)
    rw [hxr] at hstep
    refine And.intro trivial (cMw [.ref 0, .int (nI s)] (fun w : List Int32 × List Int32 × List Int32 × List Int32 × List Int32 × List Int32 × List Int32 × List Int32 × Int32 => chX (x :: r) bs0 w.1 ∧ w.2.1.length = 6 ∧ scS w.2.2.2.2.1 w.2.2.2.2.2.1 w.2.2.2.2.2.2.1 w.2.2.2.2.2.2.2.1 ∧ slB ((solsB E s ++ (enum (x :: r) s bs0).filter (slv · E)).take 40) w.2.2.1 w.2.2.2.1) (fun _ => none) (fun w => (MW (rowE E) fr pa st rf tx ln bo ss ai fi op dp wr wm f1 f2 pm w.1 sd (nI (x :: r).length) w.2.1 w.2.2.1 w.2.2.2.1 (nI ((solsB E s ++ (enum (x :: r) s bs0).filter (slv · E)).take 40).length) w.2.2.2.2.1 w.2.2.2.2.2.1 w.2.2.2.2.2.2.1 w.2.2.2.2.2.2.2.2 w.2.2.2.2.2.2.2.1 hsh)) (by omega) rfl rfl (fun _ => rfl) (fun _ => rfl) (fun _ => rfl) (fun Q' hQ' => m_goesThrough hX (by show 10 ≤ B.1 - 1; omega) hg hxr hst hss hbo hrs (by omega) hch hpk hsc hA (fun a b c d e f g h i j k l m => hQ' (a, b, c, d, e, f, g, h, i) ⟨j, k, l, m⟩)) ?_)
    rintro ⟨ch1, pk1, sv1, sz1, hp1, pl1, sg1, bu1, wt1⟩ ⟨w1, w2, w3, w4⟩
    dsimp only at w1 w2 w3 w4 ⊢
    rw [← hstep] at w4 ⊢
    iterate 2 refine hX ?_
    rw [show nI s + 1 = nI (s + 1) from (nI_succ s).symm]
    exact ih (s + 1) (by omega) (by omega) ch1 pk1 sv1 sz1 hp1 pl1 sg1 bu1 wt1 w1 w2 w3 w4
theorem sols_none {E : List (List Int32)} (h : std E.flatten = []) : sols E = ([bs0].filter (slv · E)).take 40 := by
  rw [sols, h]
  rfl
theorem m_solves (hX : Cl sc X) (hB : 11 ≤ B.1) {E : List (List Int32)} (hg : gE E) (hss : ssR 21 ss) (hbo : tbB (BTf 18) bo) (hln : lnS ch sd pk sv sz hpz pl sg bu) (hq : ∀ ch sd sm pk sv sz hpz pl sg bu wt, lnS ch sd pk sv sz hpz pl sg bu → slB (sols E) sv sz → Q none (MW (rowE E) fr pa st rf tx ln bo ss ai fi op dp wr wm f1 f2 pm ch sd sm pk sv sz (nI (sols E).length) hpz pl sg wt bu hsh)) : X B 177 0 [some (.ref 0), none] [] (MW (rowE E) fr pa st rf tx ln bo ss ai fi op dp wr wm f1 f2 pm ch sd sm pk sv sz vm hpz pl sg wt bu hsh) Q := by
  obtain ⟨l1, l2, l3, l4, l5, l6⟩ := hln
  have t1 := (std_ok E.flatten).1
  iterate 5 refine hX ?_
  refine And.intro trivial (cMw [.ref 0] (fun u : List Int32 => sdR (std E.flatten) u) (fun _ => none) (fun u => (MW (rowE E) fr pa st rf tx ln bo ss ai fi op dp wr wm f1 f2 pm ch u (nI (std E.flatten).length) pk sv sz 0 hpz pl sg wt bu hsh)) (by omega) rfl rfl (fun _ => rfl) (fun _ => rfl) (fun _ => rfl) (fun Q' hQ' => m_laysStanding hX (by show 3 ≤ B.1 - 1; omega) hg l2 (fun u h => hQ' u h)) (fun sd1 hsd1 => ?_))
  iterate 2 refine hX ?_
  refine m_zero hX (fun ch1 c1 c2 => ?_) 6 0 rfl ch l1 (fun q h => by omega)
  have key : ∀ y, y < 6 → bs0.getD y [] = [] := by decide
  have hcb : chB bs0 ch1 := ⟨c1, fun y hy => by rw [key y hy, c2 y hy]; exact ⟨⟨by simp, fun c hc => by simp at hc⟩, rfl⟩⟩
  have hA0 : slB [] sv sz := ⟨⟨l4, l5, by simp⟩, fun i hi => by simp at hi⟩
  iterate 3 refine hX ?_
  cases hst : std E.flatten with
  | nil =>
    rw [hst] at hsd1
    refine And.intro (fun _ => ?_) (fun h => absurd rfl h)
    iterate 3 refine hX ?_
    have hgd : goodC E 0 bs0 := good_enum hg (by rw [hst]; simp) (by omega) (by rw [hst, enum, if_pos rfl]; simp)
    have hs := sols_none hst
    refine And.intro trivial (cMw [.ref 0, .int 0] (fun w : List Int32 × List Int32 × List Int32 × List Int32 × List Int32 × List Int32 × Int32 => scS w.2.2.1 w.2.2.2.1 w.2.2.2.2.1 w.2.2.2.2.2.1 ∧ slB (sols E) w.1 w.2.1) (fun _ => none) (fun w => (MW (rowE E) fr pa st rf tx ln bo ss ai fi op dp wr wm f1 f2 pm ch1 sd1 (nI ([] : List Nat).length) pk w.1 w.2.1 (nI (sols E).length) w.2.2.1 w.2.2.2.1 w.2.2.2.2.1 w.2.2.2.2.2.2 w.2.2.2.2.2.1 hsh)) (by omega) rfl rfl (fun _ => rfl) (fun _ => rfl) (fun _ => rfl) (fun Q' hQ' => m_meets (A := []) (s := 0) hX (by show 9 ≤ B.1 - 1; omega) hg hcb hgd.2.1 hgd.2.2 l6 hA0 hgd.1.symm (fun a b c d e f g h i => by rw [List.nil_append, ← hs] at i ⊢; exact hQ' (a, b, c, d, e, f, g) ⟨h, i⟩)) ?_)
    rintro ⟨sv1, sz1, hp1, pl1, sg1, bu1, wt1⟩ ⟨w1, w2⟩
    dsimp only at w1 w2 ⊢
    iterate 6 refine hX ?_
    refine And.intro (fun h => absurd h (by decide)) (fun _ => ?_)
    iterate 3 refine hX ?_
    refine And.intro (fun _ => ?_) (fun h => absurd (by decide) h)
    refine hX ?_
    exact hq ch1 sd1 _ pk sv1 sz1 hp1 pl1 sg1 bu1 wt1 ⟨c1, hsd1.1, l3, w2.1.1, w2.1.2.1, w1⟩ w2
  | cons x r =>
    rw [hst] at hsd1 t1
    refine And.intro (fun h => absurd ((neq (b := 0) (by omega) (by omega)).mp h) (by simp)) (fun _ => ?_)
    iterate 3 refine hX ?_
    have e0 : solsB E (r.length + 1) = [] := by
      rw [solsB, hst, List.length_cons, Nat.sub_self]
      rfl
    have := m_sizes (B := B) hX hB hg hst hsd1 hss hbo (fun ch pk sv sz hpz pl sg bu wt a b c d => hq ch sd1 _ pk sv sz hpz pl sg bu wt ⟨a, hsd1.1, b, d.1.1, d.1.2.1, c⟩ d) (7 - (r.length + 1)) (r.length + 1) (by rw [List.length_cons] at t1; omega) (Nat.le_refl _) ch1 pk sv sz hpz pl sg bu wt ⟨c1, fun y hy _ => hcb.2 y hy⟩ l3 l6 (by rw [e0]; exact hA0)
    rw [e0] at this
    exact this
theorem c_solves (hX : Cl sc X) (hB : 12 ≤ B.1) {me n : Nat} {ls : pL} {E : List (List Int32)} (hg : gE E) (hss : ssR 21 ss) (hbo : tbB (BTf 18) bo) (hln : lnS ch sd pk sv sz hpz pl sg bu) (hq : ∀ ch sd sm pk sv sz hpz pl sg bu wt, lnS ch sd pk sv sz hpz pl sg bu → slB (sols E) sv sz → X B me n ls [] (MW (rowE E) fr pa st rf tx ln bo ss ai fi op dp wr wm f1 f2 pm ch sd sm pk sv sz (nI (sols E).length) hpz pl sg wt bu hsh) Q) : oCallV 177 11 1 2 n X B me ls [.ref 0] (MW (rowE E) fr pa st rf tx ln bo ss ai fi op dp wr wm f1 f2 pm ch sd sm pk sv sz vm hpz pl sg wt bu hsh) Q := by
  refine And.intro trivial (cMw [.ref 0] (fun w : List Int32 × List Int32 × Int32 × List Int32 × List Int32 × List Int32 × List Int32 × List Int32 × List Int32 × List Int32 × Int32 => lnS w.1 w.2.1 w.2.2.2.1 w.2.2.2.2.1 w.2.2.2.2.2.1 w.2.2.2.2.2.2.1 w.2.2.2.2.2.2.2.1 w.2.2.2.2.2.2.2.2.1 w.2.2.2.2.2.2.2.2.2.1 ∧ slB (sols E) w.2.2.2.2.1 w.2.2.2.2.2.1) (fun _ => none) (fun w => (MW (rowE E) fr pa st rf tx ln bo ss ai fi op dp wr wm f1 f2 pm w.1 w.2.1 w.2.2.1 w.2.2.2.1 w.2.2.2.2.1 w.2.2.2.2.2.1 (nI (sols E).length) w.2.2.2.2.2.2.1 w.2.2.2.2.2.2.2.1 w.2.2.2.2.2.2.2.2.1 w.2.2.2.2.2.2.2.2.2.2 w.2.2.2.2.2.2.2.2.2.1 hsh)) (by omega) rfl rfl (fun _ => rfl) (fun _ => rfl) (fun _ => rfl) (fun Q' hQ' => m_solves hX (by show 11 ≤ B.1 - 1; omega) hg hss hbo hln (fun a b c d e f g h i j k l m => hQ' (a, b, c, d, e, f, g, h, i, j, k) ⟨l, m⟩)) ?_)
  rintro ⟨ch1, sd1, sm1, pk1, sv1, sz1, hp1, pl1, sg1, bu1, wt1⟩ ⟨w1, w2⟩
  exact hq ch1 sd1 sm1 pk1 sv1 sz1 hp1 pl1 sg1 bu1 wt1 w1 w2
end MP
