/-! FlexTerms: becomes, digest. -/
theorem slv_at {bs : List (List Nat)} : ∀ (i : Nat) (E : List (List Int32)), slv bs E = true → i < E.length / 2 → ∀ j, j < 2 → (grw bs (E.getD (2 * i + j) [])).length ≤ 200
  | _, [], _, h, _, _ => by simp at h
  | _, [_], _, h, _, _ => by simp at h
  | 0, u :: v :: E, hs, h, j, hj => by
    rw [slv, Bool.and_eq_true, Bool.and_eq_true, decide_eq_true_eq, decide_eq_true_eq] at hs
    rcases (show j = 0 ∨ j = 1 by omega) with rfl | rfl
    · exact hs.1.1
    · show (grw bs v).length ≤ 200
      rw [← hs.1.2]; exact hs.1.1
  | i + 1, u :: v :: E, hs, h, j, hj => by
    rw [slv, Bool.and_eq_true] at hs
    have := slv_at i E hs.2 (by simp only [List.length_cons] at h; omega) j hj
    rw [show 2 * (i + 1) + j = 2 * i + j + 1 + 1 by omega]
    exact this
section FH
variable {sc : List Int32} {X : pX} {B : pB} {Q : pQ}
theorem f_becomes (hX : Cl sc X) (hB : 15 ≤ B.1) {s : St} {f : FT} (hI : FIf s f) {i e d k : Int32} (hq : ∀ f', FIf (sBecomes s i e d k).2 f' → Q (some (.int (sBecomes s i e d k).1)) (FWf fr0 f' [])) : X B 103 0 [some (.ref 0), some (.int i), some (.int e), some (.int d), some (.int k), none] [] (FWf fr0 f []) Q := by
  have h40 := sols_le s.2.1
  have h8 := hI.2.1.1.1
  have bad : ¬ (¬ i < 0 ∧ hsI e (s.2.1.length / 2) = 1 ∧ (d = 0 ∨ d = 1) ∧ -1 ≤ k) → X B 103 28 [some (.ref 0), some (.int i), some (.int e), some (.int d), some (.int k), none] [] (FWf fr0 f []) Q := by
    intro h
    rw [sBecomes, if_neg h] at hq
    iterate 3 refine hX ?_
    refine c_bad hX (by omega) hI (fun f' h' => ?_)
    refine hX ?_
    exact hq f' h'
  iterate 2 refine hX ?_
  refine And.intro (fun h => bad (fun q => q.1 h)) (fun h => ?_)
  iterate 4 refine hX ?_
  refine c_has hX (by omega) (k := s.2.1.length) (by omega) hI.2.2.2.1.1.2.1 ?_
  rcases hsI_or e (s.2.1.length / 2) with h2 | h2
  · rw [h2]
    exact hX (And.intro (fun _ => bad (fun q => by rw [h2] at q; exact absurd q.2.1 (by decide))) (fun h => absurd rfl h))
  rw [h2]
  refine hX (And.intro (fun h => absurd h (by decide)) (fun _ => ?_))
  iterate 2 refine hX ?_
  refine cP [] [.int d] [] (some (.int (if d = 0 ∨ d = 1 then 1 else 0))) [.int (if d = 0 ∨ d = 1 then 1 else 0)] (by omega) rfl rfl rfl rfl (fun Q' hQ' => t_isSide hX hQ') ?_
  by_cases hd : d = 0 ∨ d = 1
  case neg =>
    rw [if_neg hd]
    exact hX (And.intro (fun _ => bad (fun q => hd q.2.2.1)) (fun h => absurd rfl h))
  rw [if_pos hd]
  refine hX (And.intro (fun h => absurd h (by decide)) (fun _ => ?_))
  iterate 3 refine hX ?_
  refine And.intro (fun h4 => ?_) (fun h4 => bad (fun q => h4 q.2.2.2))
  rw [sBecomes, if_pos ⟨h, h2, hd, h4⟩] at hq
  obtain ⟨m, rfl, hm, hmc⟩ := i_nat h
  obtain ⟨e, rfl, he, hec⟩ := hsI_is (by omega) h2
  obtain ⟨dj, dk⟩ := d_nat hd
  rw [hmc, hec] at hq
  generalize d.toNatClampNeg = j at dj dk hq
  subst dj
  iterate 4 refine hX ?_
  refine c_found hX (by omega) hI rfl (fun f' h' => ?_)
  refine hX (And.intro (fun h5 => ?_) (fun h5 => ?_))
  · have hl := (nlt hm (by omega)).mp h5
    rw [if_pos hl] at hq
    obtain ⟨-, hsl, hlr, hch, hok⟩ := sols_mem (getD_mem (d := []) hl)
    have h200 := slv_at e s.2.1 hsl he j dk
    obtain ⟨hn, H, T, ⟨L, S, N, D, C, sd, tt⟩, b, ⟨lf, rt, cn⟩, ⟨bw, bf, bn⟩, ⟨w, p, o, t, kn, sn, sz, pl, gw, us⟩, ⟨stn, lst, ws, le, ct, kw⟩, W, c1, c2, c3⟩ := f'
    obtain ⟨⟨i1, i2, i3, ⟨⟨j1, j2, j3⟩, i4, i4b⟩, ⟨bs, A, ⟨i5, i5a, i5b⟩, i5'⟩, i6, i7, i8, i9⟩, k1, k2, k3⟩ := h'
    dsimp only at j1 j2 j3 i4 i4b i5 i5a i5b i5' k1 k2 k3
    subst j2 j3 i4b k1 k2
    have hE8 := i2.1.1
    have hE40 := i2.1.2.1
    obtain ⟨xr, d1, d2⟩ := side_at j1.2.2.2 (k := 2 * e + j) (by omega)
    have hp0 := j1.2.2.1 (2 * e + j) (by omega)
    have hu : ∀ c ∈ s.2.1.getD (2 * e + j) [], c ∈ s.2.1.flatten := fun c hc => List.mem_flatten.mpr ⟨_, getD_mem (by omega), hc⟩
    obtain ⟨-, -, -, t4⟩ := std_ok s.2.1.flatten
    iterate 4 refine hX ?_
    refine And.intro trivial (cMs rfS [.ref 0, .int (nI m)] (SeW L S N D C (nI s.2.1.length) (nI s.2.1.flatten.length) lf rt (nI (prs s.2.1.flatten s.2.1 0).length) bw bf bn w p o t kn sn sz pl gw us stn lst ws le (nI (sols s.2.1).length) 1) (fun v : List Int32 × List Int32 × List Int32 × List Int32 => chR ((sols s.2.1).getD m []) v.1 v.2.1 v.2.2.1 v.2.2.2) (fun _ => none) (fun v => SeW L S N D C (nI s.2.1.length) (nI s.2.1.flatten.length) lf rt (nI (prs s.2.1.flatten s.2.1 0).length) bw bf bn v.1 v.2.1 v.2.2.1 v.2.2.2 kn sn sz pl gw us stn lst ws le (nI (sols s.2.1).length) 1) (fun v => FW fr0 hn H T (L, S, N, D, C, nI s.2.1.length, nI s.2.1.flatten.length) b (lf, rt, nI (prs s.2.1.flatten s.2.1 0).length) (bw, bf, bn) (v.1, v.2.1, v.2.2.1, v.2.2.2, kn, sn, sz, pl, gw, us) (stn, lst, ws, le, nI (sols s.2.1).length, 1) W c1 c2 c3 []) (by omega) rfl rfl rfl (fun _ => rfl) (fun _ => rfl) (fun _ => rfl) (fun Q' hQ' => t_stake hX (by show 3 ≤ B.1 - 1; omega) k3 hl hok hlr i5.1.1 i5.1.2 (fun w p o t h => hQ' (w, p, o, t) h)) (fun v hv => ?_))
    obtain ⟨w2, p2, o2, t2⟩ := v
    dsimp only at hv
    generalize s.2.1.getD (2 * e + j) [] = u at d1 d2 hu h200 hq
    generalize (sols s.2.1).getD m [] = bs1 at hsl hlr hch hok h200 hq hv
    generalize hpp : pre s.2.1 (2 * e + j) = p0 at d1 hp0
    have hgu : grw bs1 (s.2.1.flatten.drop p0) = grw bs1 u := by rw [d1, grw_app d2]
    have hxp := okF_pos d2 (by omega)
    have hp40 : p0 < 40 := by
      have := congrArg List.length d1
      rw [List.length_drop, List.length_append] at this
      omega
    have hv2 : ∀ c ∈ u, bv (arN c) (bs1.getD (kN c) []) := fun c hc => bv_rig hlr.2 hch (i2.2.2 c (hu c hc)) (t4 c (hu c hc))
    iterate 5 refine hX ?_
    refine And.intro trivial (cP rfN [.ref 0, .int (nI e), .int (nI j)] (EqW L S N D C (nI s.2.1.length) (nI s.2.1.flatten.length)) (some (.int (S.getD (2 * e + j) 0))) [.int (S.getD (2 * e + j) 0)] (by omega) rfl rfl rfl rfl (fun Q' hQ' => t_start hX (by show 2 ≤ B.1 - 1; omega) hE8 he dk j1.1.2.1 hQ') ?_)
    rw [hp0]
    iterate 5 refine hX ?_
    refine And.intro trivial (cMs rfG [.ref 0, .int (nI p0)] (GrW L S N D C (nI s.2.1.length) (nI s.2.1.flatten.length) w2 p2 o2 t2 kn sn sz pl gw us) (fun v : List Int32 × List Int32 × List Int32 × List Int32 × Nat => szI v.1 ∧ v.2.1.length = 40 ∧ gwR v.2.2.2.1 v.2.2.1 ∧ v.1.getD p0 0 = nI (grw bs1 u).length ∧ v.2.1.getD p0 0 = nI v.2.2.2.2 ∧ v.2.2.2.2 + (grw bs1 u).length ≤ v.2.2.2.1.length ∧ (v.2.2.2.1.drop v.2.2.2.2).take (grw bs1 u).length = grw bs1 u) (fun _ => none) (fun v => GrW L S N D C (nI s.2.1.length) (nI s.2.1.flatten.length) w2 p2 o2 t2 kn sn v.1 v.2.1 v.2.2.1 (nI v.2.2.2.1.length)) (fun v => FW fr0 hn H T (L, S, N, D, C, nI s.2.1.length, nI s.2.1.flatten.length) b (lf, rt, nI (prs s.2.1.flatten s.2.1 0).length) (bw, bf, bn) (w2, p2, o2, t2, kn, sn, v.1, v.2.1, v.2.2.1, nI v.2.2.2.1.length) (stn, lst, ws, le, nI (sols s.2.1).length, 1) W c1 c2 c3 []) (by omega) rfl rfl rfl (fun _ => rfl) (fun _ => rfl) (fun _ => rfl) (fun Q' hQ' => t_grow hX (by show 4 ≤ B.1 - 1; omega) (i4.gc hv) i4.ok d1 d2 hv2 i5.2.1.1 i5.2.1.2.1 i5.2.1.2.2 (by rw [hgu]; exact h200) (fun sz pl gw out a a1 a2 a3 a4 a5 a6 a7 => by
      rw [hgu] at a4 a6 a7
      exact hQ' (sz, pl, gw, out, a) ⟨a1, a2, a3, a4, a5, a6, a7⟩)) (fun v hv3 => ?_))
    obtain ⟨sz2, pl2, gw2, out, a⟩ := v
    obtain ⟨v1, v2, v3, v4, v5, v6, v7⟩ := hv3
    dsimp only at v1 v2 v3 v4 v5 v6 v7
    have hI2 : FIf s (hn, H, T, (L, S, N, D, C, nI s.2.1.length, nI s.2.1.flatten.length), b, (lf, rt, nI (prs s.2.1.flatten s.2.1 0).length), (bw, bf, bn), (w2, p2, o2, t2, kn, sn, sz2, pl2, gw2, nI out.length), (stn, lst, ws, le, nI (sols s.2.1).length, 1), W, c1, c2, c3) := ⟨i1, i2, i3, ⟨⟨j1, rfl, rfl⟩, i4, rfl⟩, ⟨bs1, sols s.2.1, ⟨⟨⟨hv, hlr.2⟩, ⟨v1, v2, v3.1⟩, k3⟩, i5a, i5b⟩, Or.inr ⟨rfl, rfl, rfl⟩⟩, i6, i7, i8, i9⟩
    rw [tlK] at hq
    iterate 3 refine hX ?_
    refine And.intro (fun h6 => ?_) (fun h6 => ?_)
    · rw [if_pos h6] at hq
      iterate 4 refine hX ?_
      refine And.intro trivial (cP rfG [.ref 0, .int (nI p0)] (GrW L S N D C (nI s.2.1.length) (nI s.2.1.flatten.length) w2 p2 o2 t2 kn sn sz2 pl2 gw2 (nI out.length)) (some (.int (sz2.getD p0 0))) [.int (sz2.getD p0 0)] (by omega) rfl rfl rfl rfl (fun Q' hQ' => t_sizeAt hX (by omega) v1.1 hQ') ?_)
      rw [v4]
      refine hX ?_
      exact hq _ hI2
    · rw [if_neg h6] at hq
      obtain ⟨y, rfl, hy, hyc⟩ := k_nat h4 h6
      rw [hyc] at hq
      iterate 5 refine hX ?_
      refine And.intro trivial (cP rfG [.ref 0, .int (nI p0)] (GrW L S N D C (nI s.2.1.length) (nI s.2.1.flatten.length) w2 p2 o2 t2 kn sn sz2 pl2 gw2 (nI out.length)) (some (.int (sz2.getD p0 0))) [.int (sz2.getD p0 0), .int (nI y)] (by omega) rfl rfl rfl rfl (fun Q' hQ' => t_sizeAt hX (by omega) v1.1 hQ') ?_)
      rw [v4]
      refine hX (And.intro (fun h7 => ?_) (fun h7 => ?_))
      · rw [if_neg (fun q => by have := (nle (by omega) hy).mp h7; omega)] at hq
        iterate 2 refine hX ?_
        exact hq _ hI2
      · have hylt : y < (grw bs1 u).length := Nat.not_le.mp fun q => h7 ((nle (by omega) hy).mpr q)
        rw [if_pos hylt] at hq
        have eo : out.getD (a + y) 0 = (grw bs1 u).getD y 0 := by
          rw [← v7, getD_take (by omega), List.getD_eq_getElem?_getD, List.getD_eq_getElem?_getD, List.getElem?_drop]
        iterate 5 refine hX ?_
        refine And.intro trivial (cP rfG [.ref 0, .int (nI p0), .int (nI y)] (GrW L S N D C (nI s.2.1.length) (nI s.2.1.flatten.length) w2 p2 o2 t2 kn sn sz2 pl2 gw2 (nI out.length)) (some (.int (out.getD (a + y) 0))) [.int (out.getD (a + y) 0)] (by omega) rfl rfl rfl rfl (fun Q' hQ' => t_letterOf hX hp40 v2 v3 v5 (by omega) hQ') ?_)
        rw [eo]
        iterate 2 refine hX ?_
        exact hq _ hI2
  · rw [if_neg (fun q => h5 ((nlt hm (by omega)).mpr q))] at hq
    iterate 3 refine hX ?_
    refine c_no hX (by omega) h'.1 (fun f' h' => ?_)
    refine hX ?_
    exact hq f' h'
end FH
