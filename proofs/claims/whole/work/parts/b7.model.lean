/-! The model: its calls. -/
abbrev MT : Type := List Int32 × List Int32 × List Int32 × Int32 × List Int32 × List Int32 × Int32 × List Int32 × List Int32 × Int32 × Int32 × List Int32 × Int32 × List Int32 × Int32 × List Int32 × List Int32 × Int32 × List Int32 × List Int32 × Int32 × List Int32 × List Int32 × List Int32 × Int32 × List Int32 × List Int32 × List Int32 × Int32 × List Int32 × Int64
def MWf (m : MT) : pH := MW m.1 m.2.1 m.2.2.1 m.2.2.2.1 m.2.2.2.2.1 m.2.2.2.2.2.1 m.2.2.2.2.2.2.1 m.2.2.2.2.2.2.2.1 m.2.2.2.2.2.2.2.2.1 m.2.2.2.2.2.2.2.2.2.1 m.2.2.2.2.2.2.2.2.2.2.1 m.2.2.2.2.2.2.2.2.2.2.2.1 m.2.2.2.2.2.2.2.2.2.2.2.2.1 m.2.2.2.2.2.2.2.2.2.2.2.2.2.1 m.2.2.2.2.2.2.2.2.2.2.2.2.2.2.1 m.2.2.2.2.2.2.2.2.2.2.2.2.2.2.2.1 m.2.2.2.2.2.2.2.2.2.2.2.2.2.2.2.2.1 m.2.2.2.2.2.2.2.2.2.2.2.2.2.2.2.2.2.1 m.2.2.2.2.2.2.2.2.2.2.2.2.2.2.2.2.2.2.1 m.2.2.2.2.2.2.2.2.2.2.2.2.2.2.2.2.2.2.2.1 m.2.2.2.2.2.2.2.2.2.2.2.2.2.2.2.2.2.2.2.2.1 m.2.2.2.2.2.2.2.2.2.2.2.2.2.2.2.2.2.2.2.2.2.1 m.2.2.2.2.2.2.2.2.2.2.2.2.2.2.2.2.2.2.2.2.2.2.1 m.2.2.2.2.2.2.2.2.2.2.2.2.2.2.2.2.2.2.2.2.2.2.2.1 m.2.2.2.2.2.2.2.2.2.2.2.2.2.2.2.2.2.2.2.2.2.2.2.2.1 m.2.2.2.2.2.2.2.2.2.2.2.2.2.2.2.2.2.2.2.2.2.2.2.2.2.1 m.2.2.2.2.2.2.2.2.2.2.2.2.2.2.2.2.2.2.2.2.2.2.2.2.2.2.1 m.2.2.2.2.2.2.2.2.2.2.2.2.2.2.2.2.2.2.2.2.2.2.2.2.2.2.2.1 m.2.2.2.2.2.2.2.2.2.2.2.2.2.2.2.2.2.2.2.2.2.2.2.2.2.2.2.2.1 m.2.2.2.2.2.2.2.2.2.2.2.2.2.2.2.2.2.2.2.2.2.2.2.2.2.2.2.2.2.1 m.2.2.2.2.2.2.2.2.2.2.2.2.2.2.2.2.2.2.2.2.2.2.2.2.2.2.2.2.2.2
/-- what a FlexTermsModel holds -/
def MIf (s : St) (m : MT) : Prop := (gE s.2.1 ∧ m.1 = rowE s.2.1) ∧ (paR s.2.2.1 m.2.2.1 ∧ m.2.2.2.1 = nI s.2.2.1.length) ∧ m.2.2.2.2.1 = rfR s.2.2.2.1 s.2.2.2.2.1 s.2.2.2.2.2 ∧ txR s.1 m.2.2.2.2.2.1 m.2.2.2.2.2.2.1 ∧ (tbB (BTf 18) m.2.2.2.2.2.2.2.1 ∧ ssR 21 m.2.2.2.2.2.2.2.2.1 ) ∧ ((m.2.1).length = 49 ∧ (m.2.2.2.2.2.2.2.2.2.2.2.1).length = 41 ∧ (m.2.2.2.2.2.2.2.2.2.2.2.2.2.1).length = 200 ∧ (m.2.2.2.2.2.2.2.2.2.2.2.2.2.2.2.1).length = 24 ∧ (m.2.2.2.2.2.2.2.2.2.2.2.2.2.2.2.2.1).length = 24) ∧ lnS m.2.2.2.2.2.2.2.2.2.2.2.2.2.2.2.2.2.2.1 m.2.2.2.2.2.2.2.2.2.2.2.2.2.2.2.2.2.2.2.1 m.2.2.2.2.2.2.2.2.2.2.2.2.2.2.2.2.2.2.2.2.2.1 m.2.2.2.2.2.2.2.2.2.2.2.2.2.2.2.2.2.2.2.2.2.2.1 m.2.2.2.2.2.2.2.2.2.2.2.2.2.2.2.2.2.2.2.2.2.2.2.1 m.2.2.2.2.2.2.2.2.2.2.2.2.2.2.2.2.2.2.2.2.2.2.2.2.2.1 m.2.2.2.2.2.2.2.2.2.2.2.2.2.2.2.2.2.2.2.2.2.2.2.2.2.2.1 m.2.2.2.2.2.2.2.2.2.2.2.2.2.2.2.2.2.2.2.2.2.2.2.2.2.2.2.1 m.2.2.2.2.2.2.2.2.2.2.2.2.2.2.2.2.2.2.2.2.2.2.2.2.2.2.2.2.2.1
theorem bmp0 (a b c : Nat) : bmp (rfR a b c) 0 = rfR (a + 1) b c := by rw [rfR, rfR, nI_succ]; rfl
theorem bmp1 (a b c : Nat) : bmp (rfR a b c) 1 = rfR a (b + 1) c := by rw [rfR, rfR, nI_succ]; rfl
theorem bmp2 (a b c : Nat) : bmp (rfR a b c) 2 = rfR a b (c + 1) := by rw [rfR, rfR, nI_succ]; rfl
section MQ
variable {sc : List Int32} {X : pX} {B : pB} {Q : pQ}
theorem g_type (hX : Cl sc X) (hB : 3 ≤ B.1) {s : St} {m : MT} (hI : MIf s m) {c : Int32} (hq : ∀ m', MIf (sType s c).2 m' → Q (some (.int (sType s c).1)) (MWf m')) : X B 129 0 [some (.ref 0), some (.int c)] [] (MWf m) Q := by
  obtain ⟨t, E, hs0, bd, no, fu⟩ := s
  obtain ⟨nw, fr, pa, st, rf, tx, ln, bo, ss, ai, fi, op, dp, wr, wm, f1, f2, pm, ch, sd, sm, pk, sv, sz, vm, hpz, pl, sg, wt, bu, hsh⟩ := m
  obtain ⟨⟨hg, hnw⟩, ⟨hP, hst⟩, hrf, hT, ⟨hbo, hss⟩, ⟨l1, l2, l3, l4, l5⟩, hln⟩ := id hI
  dsimp only at hg hnw hP hst hrf hT hbo hss l1 l2 l3 l4 l5 hln
  subst hnw hst hrf
  have hr3 : (rfR bd no fu).length = 3 := rfl
  refine m_type hX (by omega) hT hr3 (fun h => ?_) (fun h h2 => ?_) (fun h h2 => ?_)
  · rw [sType, if_pos h] at hq
    exact hq (rowE E, fr, pa, nI hs0.length, bmp (rfR bd no fu) 0, tx, ln, bo, ss, ai, fi, op, dp, wr, wm, f1, f2, pm, ch, sd, sm, pk, sv, sz, vm, hpz, pl, sg, wt, bu, hsh) ⟨⟨hg, rfl⟩, ⟨hP, rfl⟩, bmp0 _ _ _, hT, ⟨hbo, hss⟩, ⟨l1, l2, l3, l4, l5⟩, hln⟩
  · rw [sType, if_neg h, if_pos h2] at hq
    exact hq (rowE E, fr, pa, nI hs0.length, bmp (rfR bd no fu) 2, tx, ln, bo, ss, ai, fi, op, dp, wr, wm, f1, f2, pm, ch, sd, sm, pk, sv, sz, vm, hpz, pl, sg, wt, bu, hsh) ⟨⟨hg, rfl⟩, ⟨hP, rfl⟩, bmp2 _ _ _, hT, ⟨hbo, hss⟩, ⟨l1, l2, l3, l4, l5⟩, hln⟩
  · rw [sType, if_neg h, if_neg (by dsimp only; omega)] at hq
    refine hq (rowE E, fr, pa, nI hs0.length, rfR bd no fu, tx.set t.length c, nI (t.length + 1), bo, ss, ai, fi, op, dp, wr, wm, f1, f2, pm, ch, sd, sm, pk, sv, sz, vm, hpz, pl, sg, wt, bu, hsh) ⟨⟨hg, rfl⟩, ⟨hP, rfl⟩, rfl, ⟨?_, ?_, ?_, ?_⟩, ⟨hbo, hss⟩, ⟨l1, l2, l3, l4, l5⟩, hln⟩
    · dsimp only; rw [List.length_append, List.length_singleton]; omega
    · dsimp only; rw [List.length_set]; exact hT.2.1
    · dsimp only; rw [List.length_append, List.length_singleton, take_set (by rw [hT.2.1]; omega), hT.2.2.1]
    · dsimp only; rw [List.length_append, List.length_singleton]
theorem g_clear (hX : Cl sc X) (hB : 3 ≤ B.1) {s : St} {m : MT} (hI : MIf s m) (hq : ∀ m', MIf (sClear s).2 m' → Q (some (.int (sClear s).1)) (MWf m')) : X B 130 0 [some (.ref 0), none] [] (MWf m) Q := by
  obtain ⟨t, E, hs0, bd, no, fu⟩ := s
  obtain ⟨nw, fr, pa, st, rf, tx, ln, bo, ss, ai, fi, op, dp, wr, wm, f1, f2, pm, ch, sd, sm, pk, sv, sz, vm, hpz, pl, sg, wt, bu, hsh⟩ := m
  obtain ⟨⟨hg, hnw⟩, ⟨hP, hst⟩, hrf, hT, ⟨hbo, hss⟩, ⟨l1, l2, l3, l4, l5⟩, hln⟩ := id hI
  dsimp only at hg hnw hP hst hrf hT hbo hss l1 l2 l3 l4 l5 hln
  subst hnw hst hrf
  have hr3 : (rfR bd no fu).length = 3 := rfl
  obtain ⟨t1, t2, t3, rfl⟩ := hT
  refine m_clear hX ?_
  exact hq (rowE E, fr, pa, nI hs0.length, rfR bd no fu, tx, 0, bo, ss, ai, fi, op, dp, wr, wm, f1, f2, pm, ch, sd, sm, pk, sv, sz, vm, hpz, pl, sg, wt, bu, hsh) ⟨⟨hg, rfl⟩, ⟨hP, rfl⟩, rfl, ⟨by simp [sClear], t2, by simp [sClear], rfl⟩, ⟨hbo, hss⟩, ⟨l1, l2, l3, l4, l5⟩, hln⟩
theorem g_reads (hX : Cl sc X) (hB : 11 ≤ B.1) {s : St} {m : MT} (hI : MIf s m) (hq : ∀ m', MIf (sReads s).2 m' → Q (some (.int (sReads s).1)) (MWf m')) : X B 138 0 [some (.ref 0), none] [] (MWf m) Q := by
  obtain ⟨t, E, hs0, bd, no, fu⟩ := s
  obtain ⟨nw, fr, pa, st, rf, tx, ln, bo, ss, ai, fi, op, dp, wr, wm, f1, f2, pm, ch, sd, sm, pk, sv, sz, vm, hpz, pl, sg, wt, bu, hsh⟩ := m
  obtain ⟨⟨hg, hnw⟩, ⟨hP, hst⟩, hrf, hT, ⟨hbo, hss⟩, ⟨l1, l2, l3, l4, l5⟩, hln⟩ := id hI
  dsimp only at hg hnw hP hst hrf hT hbo hss l1 l2 l3 l4 l5 hln
  subst hnw hst hrf
  have hr3 : (rfR bd no fu).length = 3 := rfl
  refine m_reads hX (by omega) hT l1 l2 hg hP (fun j fr' op' ai' dp' fi' a b c => ?_) (fun E' pa' fr' op' ai' dp' fi' a b c d e => ?_)
  · have e : sReads (t, E, hs0, bd, no, fu) = (-10 - nI j, t, E, hs0, bd, no, fu) := by
      unfold sReads
      dsimp only
      rw [a]
    rw [e] at hq
    exact hq (rowE E, fr', pa, nI hs0.length, rfR bd no fu, tx, ln, bo, ss, ai', fi', op', dp', wr, wm, f1, f2, pm, ch, sd, sm, pk, sv, sz, vm, hpz, pl, sg, wt, bu, hsh) ⟨⟨hg, rfl⟩, ⟨hP, rfl⟩, rfl, hT, ⟨hbo, hss⟩, ⟨b, c, l3, l4, l5⟩, hln⟩
  · have e2 : sReads (t, E, hs0, bd, no, fu) = (nI (E'.length / 2), t, E', psh hs0 E, bd, no, fu) := by
      unfold sReads
      dsimp only
      rw [a]
    rw [e2] at hq
    exact hq (rowE E', fr', pa', nI (psh hs0 E).length, rfR bd no fu, tx, ln, bo, ss, ai', fi', op', dp', wr, wm, f1, f2, pm, ch, sd, sm, pk, sv, sz, vm, hpz, pl, sg, wt, bu, hsh) ⟨⟨b, rfl⟩, ⟨c, rfl⟩, rfl, hT, ⟨hbo, hss⟩, ⟨d, e, l3, l4, l5⟩, hln⟩
theorem g_drops (hX : Cl sc X) (hB : 4 ≤ B.1) {s : St} {m : MT} (hI : MIf s m) {e : Int32} (hq : ∀ m', MIf (sDrops s e).2 m' → Q (some (.int (sDrops s e).1)) (MWf m')) : X B 143 0 [some (.ref 0), some (.int e), none, none, none] [] (MWf m) Q := by
  obtain ⟨t, E, hs0, bd, no, fu⟩ := s
  obtain ⟨nw, fr, pa, st, rf, tx, ln, bo, ss, ai, fi, op, dp, wr, wm, f1, f2, pm, ch, sd, sm, pk, sv, sz, vm, hpz, pl, sg, wt, bu, hsh⟩ := m
  obtain ⟨⟨hg, hnw⟩, ⟨hP, hst⟩, hrf, hT, ⟨hbo, hss⟩, ⟨l1, l2, l3, l4, l5⟩, hln⟩ := id hI
  dsimp only at hg hnw hP hst hrf hT hbo hss l1 l2 l3 l4 l5 hln
  subst hnw hst hrf
  have hr3 : (rfR bd no fu).length = 3 := rfl
  refine m_drops hX (by omega) hr3 hg hP (fun h => ?_) (fun i pa' a b c d => ?_)
  · rw [sDrops, if_neg (by dsimp only; rw [h]; decide)] at hq
    exact hq (rowE E, fr, pa, nI hs0.length, bmp (rfR bd no fu) 0, tx, ln, bo, ss, ai, fi, op, dp, wr, wm, f1, f2, pm, ch, sd, sm, pk, sv, sz, vm, hpz, pl, sg, wt, bu, hsh) ⟨⟨hg, rfl⟩, ⟨hP, rfl⟩, bmp0 _ _ _, hT, ⟨hbo, hss⟩, ⟨l1, l2, l3, l4, l5⟩, hln⟩
  · have h8 := hg.1.1
    rw [sDrops, if_pos (by dsimp only; rw [b]; exact hsI_in a (by omega)), c] at hq
    exact hq (rowE (drE E i), fr, pa', nI (psh hs0 E).length, rfR bd no fu, tx, ln, bo, ss, ai, fi, op, dp, wr, wm, f1, f2, pm, ch, sd, sm, pk, sv, sz, vm, hpz, pl, sg, wt, bu, hsh) ⟨⟨dr_ok hg a, rfl⟩, ⟨d, rfl⟩, rfl, hT, ⟨hbo, hss⟩, ⟨l1, l2, l3, l4, l5⟩, hln⟩
theorem g_turns (hX : Cl sc X) (hB : 4 ≤ B.1) {s : St} {m : MT} (hI : MIf s m) {e : Int32} (hq : ∀ m', MIf (sTurns s e).2 m' → Q (some (.int (sTurns s e).1)) (MWf m')) : X B 144 0 [some (.ref 0), some (.int e), none, none, none, none] [] (MWf m) Q := by
  obtain ⟨t, E, hs0, bd, no, fu⟩ := s
  obtain ⟨nw, fr, pa, st, rf, tx, ln, bo, ss, ai, fi, op, dp, wr, wm, f1, f2, pm, ch, sd, sm, pk, sv, sz, vm, hpz, pl, sg, wt, bu, hsh⟩ := m
  obtain ⟨⟨hg, hnw⟩, ⟨hP, hst⟩, hrf, hT, ⟨hbo, hss⟩, ⟨l1, l2, l3, l4, l5⟩, hln⟩ := id hI
  dsimp only at hg hnw hP hst hrf hT hbo hss l1 l2 l3 l4 l5 hln
  subst hnw hst hrf
  have hr3 : (rfR bd no fu).length = 3 := rfl
  refine m_turns hX (by omega) hr3 l1 hg hP (fun h => ?_) (fun i pa' fr' a b c d f => ?_)
  · rw [sTurns, if_neg (by dsimp only; rw [h]; decide)] at hq
    exact hq (rowE E, fr, pa, nI hs0.length, bmp (rfR bd no fu) 0, tx, ln, bo, ss, ai, fi, op, dp, wr, wm, f1, f2, pm, ch, sd, sm, pk, sv, sz, vm, hpz, pl, sg, wt, bu, hsh) ⟨⟨hg, rfl⟩, ⟨hP, rfl⟩, bmp0 _ _ _, hT, ⟨hbo, hss⟩, ⟨l1, l2, l3, l4, l5⟩, hln⟩
  · have h8 := hg.1.1
    rw [sTurns, if_pos (by dsimp only; rw [b]; exact hsI_in a (by omega)), c] at hq
    exact hq (rowE (tuE E i), fr', pa', nI (psh hs0 E).length, rfR bd no fu, tx, ln, bo, ss, ai, fi, op, dp, wr, wm, f1, f2, pm, ch, sd, sm, pk, sv, sz, vm, hpz, pl, sg, wt, bu, hsh) ⟨⟨tu_ok hg a, rfl⟩, ⟨d, rfl⟩, rfl, hT, ⟨hbo, hss⟩, ⟨f, l2, l3, l4, l5⟩, hln⟩
theorem g_back (hX : Cl sc X) (hB : 4 ≤ B.1) {s : St} {m : MT} (hI : MIf s m) (hq : ∀ m', MIf (sBack s).2 m' → Q (some (.int (sBack s).1)) (MWf m')) : X B 128 0 [some (.ref 0), none] [] (MWf m) Q := by
  obtain ⟨t, E, hs0, bd, no, fu⟩ := s
  obtain ⟨nw, fr, pa, st, rf, tx, ln, bo, ss, ai, fi, op, dp, wr, wm, f1, f2, pm, ch, sd, sm, pk, sv, sz, vm, hpz, pl, sg, wt, bu, hsh⟩ := m
  obtain ⟨⟨hg, hnw⟩, ⟨hP, hst⟩, hrf, hT, ⟨hbo, hss⟩, ⟨l1, l2, l3, l4, l5⟩, hln⟩ := id hI
  dsimp only at hg hnw hP hst hrf hT hbo hss l1 l2 l3 l4 l5 hln
  subst hnw hst hrf
  have hr3 : (rfR bd no fu).length = 3 := rfl
  refine m_back hX (by omega) (rowE_len hg) hr3 hP (fun h => ?_) (fun h => ?_)
  · rw [sBack, if_pos h] at hq
    exact hq (rowE E, fr, pa, nI hs0.length, bmp (rfR bd no fu) 1, tx, ln, bo, ss, ai, fi, op, dp, wr, wm, f1, f2, pm, ch, sd, sm, pk, sv, sz, vm, hpz, pl, sg, wt, bu, hsh) ⟨⟨hg, rfl⟩, ⟨hP, rfl⟩, bmp1 _ _ _, hT, ⟨hbo, hss⟩, ⟨l1, l2, l3, l4, l5⟩, hln⟩
  · rw [sBack, if_neg (by dsimp only; omega)] at hq
    obtain ⟨⟨p1, p2, p3⟩, p4⟩ := hP
    have hl : (hs0.take (hs0.length - 1)).length = hs0.length - 1 := by rw [List.length_take]; omega
    have hgl : gE (hs0.getD (hs0.length - 1) []) := p3 _ (getD_mem (by omega))
    have := hq (rowE (hs0.getD (hs0.length - 1) []), fr, pa, nI (hs0.length - 1), rfR bd no fu, tx, ln, bo, ss, ai, fi, op, dp, wr, wm, f1, f2, pm, ch, sd, sm, pk, sv, sz, vm, hpz, pl, sg, wt, bu, hsh) ⟨⟨hgl, rfl⟩, ⟨⟨⟨p1, by dsimp only; omega, fun F hF => p3 F (List.mem_of_mem_take hF)⟩, fun i hi k hk => ?_⟩, by dsimp only; rw [hl]⟩, rfl, hT, ⟨hbo, hss⟩, ⟨l1, l2, l3, l4, l5⟩, hln⟩
    · exact this
    · dsimp only at hi ⊢
      rw [hl] at hi
      rw [getD_take hi]
      exact p4 i (by omega) k hk
theorem g_of (hX : Cl sc X) (hB : 6 ≤ B.1) {s : St} {m : MT} (hI : MIf s m) {e d w : Int32} (hq : ∀ m', MIf (sOf s e d w).2 m' → Q (some (.int (sOf s e d w).1)) (MWf m')) : X B 149 0 [some (.ref 0), some (.int e), some (.int d), some (.int w)] [] (MWf m) Q := by
  obtain ⟨t, E, hs0, bd, no, fu⟩ := s
  obtain ⟨nw, fr, pa, st, rf, tx, ln, bo, ss, ai, fi, op, dp, wr, wm, f1, f2, pm, ch, sd, sm, pk, sv, sz, vm, hpz, pl, sg, wt, bu, hsh⟩ := m
  obtain ⟨⟨hg, hnw⟩, ⟨hP, hst⟩, hrf, hT, ⟨hbo, hss⟩, ⟨l1, l2, l3, l4, l5⟩, hln⟩ := id hI
  dsimp only at hg hnw hP hst hrf hT hbo hss l1 l2 l3 l4 l5 hln
  subst hnw hst hrf
  have hr3 : (rfR bd no fu).length = 3 := rfl
  refine m_of hX (by omega) l2 hr3 hg (fun h => ?_) (fun h op' dp' a => ?_)
  · rw [sOf, if_neg h] at hq
    exact hq (rowE E, fr, pa, nI hs0.length, bmp (rfR bd no fu) 0, tx, ln, bo, ss, ai, fi, op, dp, wr, wm, f1, f2, pm, ch, sd, sm, pk, sv, sz, vm, hpz, pl, sg, wt, bu, hsh) ⟨⟨hg, rfl⟩, ⟨hP, rfl⟩, bmp0 _ _ _, hT, ⟨hbo, hss⟩, ⟨l1, l2, l3, l4, l5⟩, hln⟩
  · rw [sOf, if_pos h] at hq
    exact hq (rowE E, fr, pa, nI hs0.length, rfR bd no fu, tx, ln, bo, ss, ai, fi, op', dp', wr, wm, f1, f2, pm, ch, sd, sm, pk, sv, sz, vm, hpz, pl, sg, wt, bu, hsh) ⟨⟨hg, rfl⟩, ⟨hP, rfl⟩, rfl, hT, ⟨hbo, hss⟩, ⟨l1, a, l3, l4, l5⟩, hln⟩
theorem g_shown (hX : Cl sc X) (hB : 6 ≤ B.1) {s : St} {m : MT} (hI : MIf s m) {e k : Int32} (hq : ∀ m', MIf (sShown s e k).2 m' → Q (some (.int (sShown s e k).1)) (MWf m')) : X B 154 0 [some (.ref 0), some (.int e), some (.int k)] [] (MWf m) Q := by
  obtain ⟨t, E, hs0, bd, no, fu⟩ := s
  obtain ⟨nw, fr, pa, st, rf, tx, ln, bo, ss, ai, fi, op, dp, wr, wm, f1, f2, pm, ch, sd, sm, pk, sv, sz, vm, hpz, pl, sg, wt, bu, hsh⟩ := m
  obtain ⟨⟨hg, hnw⟩, ⟨hP, hst⟩, hrf, hT, ⟨hbo, hss⟩, ⟨l1, l2, l3, l4, l5⟩, hln⟩ := id hI
  dsimp only at hg hnw hP hst hrf hT hbo hss l1 l2 l3 l4 l5 hln
  subst hnw hst hrf
  have hr3 : (rfR bd no fu).length = 3 := rfl
  refine m_shown hX (by omega) l2 l3 hr3 hg (fun h => ?_) (fun h op' wr' dp' wm' a b => ?_)
  · rw [sShown, if_neg h] at hq
    exact hq (rowE E, fr, pa, nI hs0.length, bmp (rfR bd no fu) 0, tx, ln, bo, ss, ai, fi, op, dp, wr, wm, f1, f2, pm, ch, sd, sm, pk, sv, sz, vm, hpz, pl, sg, wt, bu, hsh) ⟨⟨hg, rfl⟩, ⟨hP, rfl⟩, bmp0 _ _ _, hT, ⟨hbo, hss⟩, ⟨l1, l2, l3, l4, l5⟩, hln⟩
  · rw [sShown, if_pos h] at hq
    exact hq (rowE E, fr, pa, nI hs0.length, rfR bd no fu, tx, ln, bo, ss, ai, fi, op', dp', wr', wm', f1, f2, pm, ch, sd, sm, pk, sv, sz, vm, hpz, pl, sg, wt, bu, hsh) ⟨⟨hg, rfl⟩, ⟨hP, rfl⟩, rfl, hT, ⟨hbo, hss⟩, ⟨l1, a, b, l4, l5⟩, hln⟩
theorem g_pairs (hX : Cl sc X) (hB : 9 ≤ B.1) {s : St} {m : MT} (hI : MIf s m) {w : Int32} (hq : ∀ m', MIf (sPairs s w).2 m' → Q (some (.int (sPairs s w).1)) (MWf m')) : X B 162 0 [some (.ref 0), some (.int w)] [] (MWf m) Q := by
  obtain ⟨t, E, hs0, bd, no, fu⟩ := s
  obtain ⟨nw, fr, pa, st, rf, tx, ln, bo, ss, ai, fi, op, dp, wr, wm, f1, f2, pm, ch, sd, sm, pk, sv, sz, vm, hpz, pl, sg, wt, bu, hsh⟩ := m
  obtain ⟨⟨hg, hnw⟩, ⟨hP, hst⟩, hrf, hT, ⟨hbo, hss⟩, ⟨l1, l2, l3, l4, l5⟩, hln⟩ := id hI
  dsimp only at hg hnw hP hst hrf hT hbo hss l1 l2 l3 l4 l5 hln
  subst hnw hst hrf
  have hr3 : (rfR bd no fu).length = 3 := rfl
  refine m_pairs hX (by omega) hr3 hg ⟨l4, l5⟩ (fun h => ?_) (fun h g1 g2 pm' a b => ?_)
  · rw [sPairs, if_neg h] at hq
    exact hq (rowE E, fr, pa, nI hs0.length, bmp (rfR bd no fu) 0, tx, ln, bo, ss, ai, fi, op, dp, wr, wm, f1, f2, pm, ch, sd, sm, pk, sv, sz, vm, hpz, pl, sg, wt, bu, hsh) ⟨⟨hg, rfl⟩, ⟨hP, rfl⟩, bmp0 _ _ _, hT, ⟨hbo, hss⟩, ⟨l1, l2, l3, l4, l5⟩, hln⟩
  · rw [sPairs, if_pos h] at hq
    exact hq (rowE E, fr, pa, nI hs0.length, rfR bd no fu, tx, ln, bo, ss, ai, fi, op, dp, wr, wm, g1, g2, pm', ch, sd, sm, pk, sv, sz, vm, hpz, pl, sg, wt, bu, hsh) ⟨⟨hg, rfl⟩, ⟨hP, rfl⟩, rfl, hT, ⟨hbo, hss⟩, ⟨l1, l2, l3, a, b⟩, hln⟩
theorem g_pair (hX : Cl sc X) (hB : 9 ≤ B.1) {s : St} {m : MT} (hI : MIf s m) {i w : Int32} (hq : ∀ m', MIf (sPair s i w).2 m' → Q (some (.int (sPair s i w).1)) (MWf m')) : X B 164 0 [some (.ref 0), some (.int i), some (.int w)] [] (MWf m) Q := by
  obtain ⟨t, E, hs0, bd, no, fu⟩ := s
  obtain ⟨nw, fr, pa, st, rf, tx, ln, bo, ss, ai, fi, op, dp, wr, wm, f1, f2, pm, ch, sd, sm, pk, sv, sz, vm, hpz, pl, sg, wt, bu, hsh⟩ := m
  obtain ⟨⟨hg, hnw⟩, ⟨hP, hst⟩, hrf, hT, ⟨hbo, hss⟩, ⟨l1, l2, l3, l4, l5⟩, hln⟩ := id hI
  dsimp only at hg hnw hP hst hrf hT hbo hss l1 l2 l3 l4 l5 hln
  subst hnw hst hrf
  have hr3 : (rfR bd no fu).length = 3 := rfl
  refine m_pair hX (by omega) hr3 hg ⟨l4, l5⟩ (fun h => ?_) (fun h g1 g2 pm' a b => ?_)
  · rw [sPair, if_neg h] at hq
    exact hq (rowE E, fr, pa, nI hs0.length, bmp (rfR bd no fu) 0, tx, ln, bo, ss, ai, fi, op, dp, wr, wm, f1, f2, pm, ch, sd, sm, pk, sv, sz, vm, hpz, pl, sg, wt, bu, hsh) ⟨⟨hg, rfl⟩, ⟨hP, rfl⟩, bmp0 _ _ _, hT, ⟨hbo, hss⟩, ⟨l1, l2, l3, l4, l5⟩, hln⟩
  · rw [sPair, if_pos h] at hq
    exact hq (rowE E, fr, pa, nI hs0.length, rfR bd no fu, tx, ln, bo, ss, ai, fi, op, dp, wr, wm, g1, g2, pm', ch, sd, sm, pk, sv, sz, vm, hpz, pl, sg, wt, bu, hsh) ⟨⟨hg, rfl⟩, ⟨hP, rfl⟩, rfl, hT, ⟨hbo, hss⟩, ⟨l1, l2, l3, a, b⟩, hln⟩
theorem g_told (hX : Cl sc X) (hB : 5 ≤ B.1) {s : St} {m : MT} (hI : MIf s m) {w : Int32} (hq : ∀ m', MIf (sTold s w).2 m' → Q (some (.int (sTold s w).1)) (MWf m')) : X B 185 0 [some (.ref 0), some (.int w)] [] (MWf m) Q := by
  obtain ⟨t, E, hs0, bd, no, fu⟩ := s
  obtain ⟨nw, fr, pa, st, rf, tx, ln, bo, ss, ai, fi, op, dp, wr, wm, f1, f2, pm, ch, sd, sm, pk, sv, sz, vm, hpz, pl, sg, wt, bu, hsh⟩ := m
  obtain ⟨⟨hg, hnw⟩, ⟨hP, hst⟩, hrf, hT, ⟨hbo, hss⟩, ⟨l1, l2, l3, l4, l5⟩, hln⟩ := id hI
  dsimp only at hg hnw hP hst hrf hT hbo hss l1 l2 l3 l4 l5 hln
  subst hnw hst hrf
  have hr3 : (rfR bd no fu).length = 3 := rfl
  obtain ⟨t1, t2, t3, rfl⟩ := id hT
  iterate 4 refine hX ?_
  refine cP [] [.int w, .int 0, .int 7] [] (some (.int (wiI w 0 7))) [.int (wiI w 0 7)] (by omega) rfl rfl rfl rfl (fun Q' hQ' => m_within hX hQ') ?_
  rw [show wiI w 0 7 = hsI w 8 from wi_hs (e := w) (n := 8) (by omega)]
  by_cases hw : ¬ w < 0 ∧ w < 8
  · have hw1 : hsI w 8 = 1 := if_pos hw
    rw [hw1]
    refine hX (And.intro (fun h => absurd h (by decide)) (fun _ => ?_))
    rw [sTold, if_pos hw] at hq
    obtain ⟨k, rfl, hk, hkc⟩ := hsI_is (by omega) hw1
    rw [hkc] at hq
    iterate 3 refine hX ?_
    refine And.intro trivial (cPw [.ref 0, .int (nI k)] (some (.int (fcN (t, E, hs0, bd, no, fu) k))) (by omega) rfl rfl rfl (fun Q' hQ' => m_toldOf (s := (t, E, hs0, bd, no, fu)) hX (by show 4 ≤ B.1 - 1; omega) hg hk hQ') ?_)
    iterate 2 refine hX ?_
    exact hq (rowE E, fr, pa, nI hs0.length, rfR bd no fu, tx, nI t.length, bo, ss, ai, fi, op, dp, wr, wm, f1, f2, pm, ch, sd, sm, pk, sv, sz, vm, hpz, pl, sg, wt, bu, hsh) ⟨⟨hg, rfl⟩, ⟨hP, rfl⟩, rfl, hT, ⟨hbo, hss⟩, ⟨l1, l2, l3, l4, l5⟩, hln⟩
  · rw [show hsI w 8 = 0 from if_neg hw]
    refine hX (And.intro (fun _ => ?_) (fun h => absurd rfl h))
    rw [sTold, if_neg hw] at hq
    iterate 2 refine hX ?_
    refine c_mbad hX (by omega) hr3 ?_
    refine hX ?_
    exact hq (rowE E, fr, pa, nI hs0.length, bmp (rfR bd no fu) 0, tx, nI t.length, bo, ss, ai, fi, op, dp, wr, wm, f1, f2, pm, ch, sd, sm, pk, sv, sz, vm, hpz, pl, sg, wt, bu, hsh) ⟨⟨hg, rfl⟩, ⟨hP, rfl⟩, bmp0 _ _ _, hT, ⟨hbo, hss⟩, ⟨l1, l2, l3, l4, l5⟩, hln⟩
theorem g_bodies (hX : Cl sc X) (hB : 5 ≤ B.1) {s : St} {m : MT} (hI : MIf s m) {x n : Int32} (hq : ∀ m', MIf (sBodies s x n).2 m' → Q (some (.int (sBodies s x n).1)) (MWf m')) : X B 183 0 [some (.ref 0), some (.int x), some (.int n)] [] (MWf m) Q := by
  obtain ⟨t, E, hs0, bd, no, fu⟩ := s
  obtain ⟨nw, fr, pa, st, rf, tx, ln, bo, ss, ai, fi, op, dp, wr, wm, f1, f2, pm, ch, sd, sm, pk, sv, sz, vm, hpz, pl, sg, wt, bu, hsh⟩ := m
  obtain ⟨⟨hg, hnw⟩, ⟨hP, hst⟩, hrf, hT, ⟨hbo, hss⟩, ⟨l1, l2, l3, l4, l5⟩, hln⟩ := id hI
  dsimp only at hg hnw hP hst hrf hT hbo hss l1 l2 l3 l4 l5 hln
  subst hnw hst hrf
  have hr3 : (rfR bd no fu).length = 3 := rfl
  have bad : ¬ (¬ x < 0 ∧ x < 6 ∧ 1 ≤ n ∧ n ≤ 6) → X B 183 19 [some (.ref 0), some (.int x), some (.int n)] [] (MWf (rowE E, fr, pa, nI hs0.length, rfR bd no fu, tx, ln, bo, ss, ai, fi, op, dp, wr, wm, f1, f2, pm, ch, sd, sm, pk, sv, sz, vm, hpz, pl, sg, wt, bu, hsh)) Q := by
    intro h
    rw [sBodies, if_neg h] at hq
    iterate 2 refine hX ?_
    refine c_mbad hX (by omega) hr3 ?_
    refine hX ?_
    exact hq (rowE E, fr, pa, nI hs0.length, bmp (rfR bd no fu) 0, tx, ln, bo, ss, ai, fi, op, dp, wr, wm, f1, f2, pm, ch, sd, sm, pk, sv, sz, vm, hpz, pl, sg, wt, bu, hsh) ⟨⟨hg, rfl⟩, ⟨hP, rfl⟩, bmp0 _ _ _, hT, ⟨hbo, hss⟩, ⟨l1, l2, l3, l4, l5⟩, hln⟩
  iterate 4 refine hX ?_
  refine cP [] [.int x, .int 0, .int 5] [] (some (.int (wiI x 0 5))) [.int (wiI x 0 5)] (by omega) rfl rfl rfl rfl (fun Q' hQ' => m_within hX hQ') ?_
  rw [show wiI x 0 5 = hsI x 6 from wi_hs (e := x) (n := 6) (by omega)]
  by_cases hx : ¬ x < 0 ∧ x < 6
  case neg =>
    rw [show hsI x 6 = 0 from if_neg hx]
    exact hX (And.intro (fun _ => bad (fun q => hx ⟨q.1, q.2.1⟩)) (fun h => absurd rfl h))
  have hx1 : hsI x 6 = 1 := if_pos hx
  rw [hx1]
  refine hX (And.intro (fun h => absurd h (by decide)) (fun _ => ?_))
  iterate 4 refine hX ?_
  refine cP [] [.int n, .int 1, .int 6] [] (some (.int (wiI n 1 6))) [.int (wiI n 1 6)] (by omega) rfl rfl rfl rfl (fun Q' hQ' => m_within hX hQ') ?_
  by_cases hn : 1 ≤ n ∧ n ≤ 6
  case neg =>
    rw [show wiI n 1 6 = 0 from if_neg hn]
    exact hX (And.intro (fun _ => bad (fun q => hn ⟨q.2.2.1, q.2.2.2⟩)) (fun h => absurd rfl h))
  rw [show wiI n 1 6 = 1 from if_pos hn]
  refine hX (And.intro (fun h => absurd h (by decide)) (fun _ => ?_))
  rw [sBodies, if_pos ⟨hx.1, hx.2, hn.1, hn.2⟩] at hq
  obtain ⟨y, rfl, hy, hyc⟩ := hsI_is (by omega) hx1
  have hn0 : ¬ n < 0 := fun q => by
    have h1 := hn.1
    rw [Int32.le_iff_toInt_le] at h1
    rw [Int32.lt_iff_toInt_lt] at q
    have e1 : (1 : Int32).toInt = 1 := by decide
    have e0 : (0 : Int32).toInt = 0 := by decide
    omega
  obtain ⟨k, rfl, hk, hkc⟩ := i_nat hn0
  have hk1 : 1 ≤ k := (nle (a := 1) (by omega) hk).mp hn.1
  have hk6 : k ≤ 6 := (nle (b := 6) hk (by omega)).mp hn.2
  rw [hyc, hkc] at hq
  have hsum : sS (y % 3) k = sS (y % 3) (k - 1) + (spF (y % 3) k 1).length := by
    have := BTf_succ (6 * (y % 3) + (k - 1))
    rw [show 6 * (y % 3) + (k - 1) + 1 = 6 * (y % 3) + k by omega, show (6 * (y % 3) + (k - 1)) / 6 = y % 3 by omega, show (6 * (y % 3) + (k - 1)) % 6 + 1 = k by omega] at this
    rw [sS, sS, this, List.length_append]
  have hhi := sS_le (P := y % 3) (k := k) (by omega) hk6
  have e3 : nI y - nI y / 3 * 3 = nI (y % 3) := nrem (b := 3) (by omega) (by omega) (by omega)
  have e7 : (7 : Int32) * nI (y % 3) + nI k = nI (7 * (y % 3) + k) := by rw [show (7 : Int32) = nI 7 from rfl, nmul, nadd]
  iterate 6 refine hX ?_
  refine And.intro (by decide) ?_
  rw [e3]
  iterate 4 refine hX ?_
  rw [e7]
  refine And.intro (vp_in_nI (by rw [hss.1]; omega) (by rw [hss.1]; omega)) ?_
  rw [nI_clamp (by omega), ss_at hss (by omega) hk6]
  iterate 6 refine hX ?_
  refine And.intro (by decide) ?_
  rw [e3]
  iterate 6 refine hX ?_
  rw [e7, show nI (7 * (y % 3) + k) - 1 = nI (7 * (y % 3) + (k - 1)) by rw [show nI (7 * (y % 3) + k) - 1 = nI (7 * (y % 3) + k - 1) from nsub (b := 1) (by omega)]; congr 1; omega]
  refine And.intro (vp_in_nI (by rw [hss.1]; omega) (by rw [hss.1]; omega)) ?_
  rw [nI_clamp (by omega), ss_at hss (by omega) (by omega)]
  iterate 2 refine hX ?_
  rw [nsub (by omega), hsum, Nat.add_sub_cancel_left]
  exact hq (rowE E, fr, pa, nI hs0.length, rfR bd no fu, tx, ln, bo, ss, ai, fi, op, dp, wr, wm, f1, f2, pm, ch, sd, sm, pk, sv, sz, vm, hpz, pl, sg, wt, bu, hsh) ⟨⟨hg, rfl⟩, ⟨hP, rfl⟩, rfl, hT, ⟨hbo, hss⟩, ⟨l1, l2, l3, l4, l5⟩, hln⟩
theorem g_solutions (hX : Cl sc X) (hB : 13 ≤ B.1) {s : St} {m : MT} (hI : MIf s m) (hq : ∀ m', MIf (sSolutions s).2 m' → Q (some (.int (sSolutions s).1)) (MWf m')) : X B 178 0 [some (.ref 0)] [] (MWf m) Q := by
  obtain ⟨t, E, hs0, bd, no, fu⟩ := s
  obtain ⟨nw, fr, pa, st, rf, tx, ln, bo, ss, ai, fi, op, dp, wr, wm, f1, f2, pm, ch, sd, sm, pk, sv, sz, vm, hpz, pl, sg, wt, bu, hsh⟩ := m
  obtain ⟨⟨hg, hnw⟩, ⟨hP, hst⟩, hrf, hT, ⟨hbo, hss⟩, ⟨l1, l2, l3, l4, l5⟩, hln⟩ := id hI
  dsimp only at hg hnw hP hst hrf hT hbo hss l1 l2 l3 l4 l5 hln
  subst hnw hst hrf
  have hr3 : (rfR bd no fu).length = 3 := rfl
  iterate 2 refine hX ?_
  refine c_solves hX (by omega) hg hss hbo hln (fun ch sd sm pk sv sz hpz pl sg bu wt a b => ?_)
  iterate 3 refine hX ?_
  exact hq (rowE E, fr, pa, nI hs0.length, rfR bd no fu, tx, ln, bo, ss, ai, fi, op, dp, wr, wm, f1, f2, pm, ch, sd, sm, pk, sv, sz, nI (sols E).length, hpz, pl, sg, wt, bu, hsh) ⟨⟨hg, rfl⟩, ⟨hP, rfl⟩, rfl, hT, ⟨hbo, hss⟩, ⟨l1, l2, l3, l4, l5⟩, a⟩
theorem g_size (hX : Cl sc X) (hB : 13 ≤ B.1) {s : St} {m : MT} (hI : MIf s m) {i : Int32} (hq : ∀ m', MIf (sSize s i).2 m' → Q (some (.int (sSize s i).1)) (MWf m')) : X B 179 0 [some (.ref 0), some (.int i)] [] (MWf m) Q := by
  obtain ⟨t, E, hs0, bd, no, fu⟩ := s
  obtain ⟨nw, fr, pa, st, rf, tx, ln, bo, ss, ai, fi, op, dp, wr, wm, f1, f2, pm, ch, sd, sm, pk, sv, sz, vm, hpz, pl, sg, wt, bu, hsh⟩ := m
  obtain ⟨⟨hg, hnw⟩, ⟨hP, hst⟩, hrf, hT, ⟨hbo, hss⟩, ⟨l1, l2, l3, l4, l5⟩, hln⟩ := id hI
  dsimp only at hg hnw hP hst hrf hT hbo hss l1 l2 l3 l4 l5 hln
  subst hnw hst hrf
  have hr3 : (rfR bd no fu).length = 3 := rfl
  have h40 := sols_le E
  iterate 2 refine hX ?_
  refine And.intro (fun h => ?_) (fun h => ?_)
  · have hi : ¬ i < 0 := Int32.not_lt.mpr h
    rw [sSize, if_neg hi] at hq
    obtain ⟨k, rfl, hk, hkc⟩ := i_nat hi
    rw [hkc] at hq
    iterate 2 refine hX ?_
    refine c_solves hX (by omega) hg hss hbo hln (fun ch sd sm pk sv sz hpz pl sg bu wt a b => ?_)
    iterate 4 refine hX ?_
    by_cases hl : k < (sols E).length
    · rw [if_pos hl] at hq
      refine And.intro (fun h => absurd ((nle (by omega) (by omega)).mp h) (by omega)) (fun _ => ?_)
      iterate 4 refine hX ?_
      refine And.intro (vp_in_nI (by rw [b.1.2.1]; omega) (by rw [b.1.2.1]; omega)) ?_
      rw [nI_clamp (by omega), (b.2 k hl).2]
      iterate 2 refine hX ?_
      exact hq (rowE E, fr, pa, nI hs0.length, rfR bd no fu, tx, ln, bo, ss, ai, fi, op, dp, wr, wm, f1, f2, pm, ch, sd, sm, pk, sv, sz, nI (sols E).length, hpz, pl, sg, wt, bu, hsh) ⟨⟨hg, rfl⟩, ⟨hP, rfl⟩, rfl, hT, ⟨hbo, hss⟩, ⟨l1, l2, l3, l4, l5⟩, a⟩
    · rw [if_neg hl] at hq
      refine And.intro (fun _ => ?_) (fun h => absurd ((nle (by omega) (by omega)).mpr (by omega)) h)
      iterate 2 refine hX ?_
      refine c_mno hX (by omega) hr3 ?_
      refine hX ?_
      exact hq (rowE E, fr, pa, nI hs0.length, bmp (rfR bd no fu) 1, tx, ln, bo, ss, ai, fi, op, dp, wr, wm, f1, f2, pm, ch, sd, sm, pk, sv, sz, nI (sols E).length, hpz, pl, sg, wt, bu, hsh) ⟨⟨hg, rfl⟩, ⟨hP, rfl⟩, bmp1 _ _ _, hT, ⟨hbo, hss⟩, ⟨l1, l2, l3, l4, l5⟩, a⟩
  · have hi : i < 0 := Int32.not_le.mp h
    rw [sSize, if_pos hi] at hq
    iterate 2 refine hX ?_
    refine c_mbad hX (by omega) hr3 ?_
    refine hX ?_
    exact hq (rowE E, fr, pa, nI hs0.length, bmp (rfR bd no fu) 0, tx, ln, bo, ss, ai, fi, op, dp, wr, wm, f1, f2, pm, ch, sd, sm, pk, sv, sz, vm, hpz, pl, sg, wt, bu, hsh) ⟨⟨hg, rfl⟩, ⟨hP, rfl⟩, bmp0 _ _ _, hT, ⟨hbo, hss⟩, ⟨l1, l2, l3, l4, l5⟩, hln⟩
end MQ
