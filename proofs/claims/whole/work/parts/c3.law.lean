/-! The law. -/
theorem cmpL_self (x : Int64) : lg_cmp x x = 0 := by
  rw [lg_cmp, if_neg (fun h => Int64.lt_irrefl h), if_pos rfl]
theorem len5 {n : Nat} (h : n ≤ 2560) : (nI n - 5 : Int32).toInt = (n : Int) - 5 := by
  by_cases h5 : n < 5
  · exact (show ∀ n, n < 5 → (nI n - 5 : Int32).toInt = (n : Int) - 5 by decide) n h5
  · rw [show (nI n - 5 : Int32) = nI (n - 5) from nsub (b := 5) (by omega), nI_toInt (by omega)]
    omega
set_option maxHeartbeats 8000000 in
theorem law_loop {sc : List Int32} {X : pX} {Q : pQ} (hX : Cl sc X) (hsc : sc.length ≤ 2560) (hq : ∀ h, Q (some (.int 1)) h) : ∀ (n i : Nat), sc.length ≤ i + 5 * n + 4 → i ≤ 2560 → ∀ (B : pB) (s : St) (f : FT) (m : MT) (ρx ρm : List Nat) (px pm : Nat) (h : pH), 20 ≤ B.1 → n ≤ B.2.1 → 40 * n ≤ B.2.2 → FIf s f → MIf s m → hld h ρx (FWf fr0 f []) → hld h ρm (MWf m) → (∀ i ∈ ρx, i ∉ ρm) → pg ρx 0 = some px → pg ρm 0 = some pm → X B 189 18 [some (.retAddr 7), some (.ref px), some (.ref pm), some (.int (nI i))] [] h Q := by
  have hend : ∀ (i : Nat) (B : pB) (px pm : Nat) (h : pH), X B 189 564 [some (.retAddr 7), some (.ref px), some (.ref pm), some (.int (nI i))] [] h Q := by
    intro i B px pm h
    iterate 2 refine hX ?_
    exact And.intro (Or.inr rfl) (hq h)
  have hcmp : ∀ i, i ≤ 2560 → ((nI sc.length - 5 : Int32) < nI i ↔ sc.length < i + 5) := by
    intro i hi
    rw [Int32.lt_iff_toInt_lt, len5 hsc, nI_toInt (by omega)]
    omega
  intro n
  induction n with
  | zero =>
    intro i hn hi B s f m ρx ρm px pm h b1 b2 b3 hI hM H1 H2 hd hpx hpm
    iterate 3 refine hX ?_
    refine And.intro rfl ?_
    iterate 3 refine hX ?_
    refine And.intro (fun _ => hend i B px pm h) (fun h2 => absurd ((hcmp i hi).mpr (by omega)) h2)
  | succ n ih =>
    intro i hn hi B s f m ρx ρm px pm h b1 b2 b3 hI hM H1 H2 hd hpx hpm
    iterate 3 refine hX ?_
    refine And.intro rfl ?_
    iterate 3 refine hX ?_
    refine And.intro (fun _ => hend i B px pm h) (fun h2 => ?_)
    have hlt : i + 5 ≤ sc.length := by
      have : ¬ sc.length < i + 5 := fun q => h2 ((hcmp i hi).mpr q)
      omega
    have next : ∀ (B' : pB) (s' : St) (f' : FT) (m' : MT) (ρx' ρm' : List Nat) (h' : pH), 20 ≤ B'.1 → n ≤ B'.2.1 → 40 * n ≤ B'.2.2 → FIf s' f' → MIf s' m' → hld h' ρx' (FWf fr0 f' []) → hld h' ρm' (MWf m') → (∀ i ∈ ρx', i ∉ ρm') → pg ρx' 0 = some px → pg ρm' 0 = some pm → X B' 189 558 [some (.retAddr 7), some (.ref px), some (.ref pm), some (.int (nI i))] [] h' Q := by
      intro B' s' f' m' ρx' ρm' h' c1 c2 c3 c4 c5 c6 c7 c8 c9 c10
      iterate 2 refine hX ?_
      rw [show nI i + 5 = nI (i + 5) from nadd i 5]
      exact ih (i + 5) (by omega) (by omega) B' s' f' m' ρx' ρm' px pm h' c1 c2 c3 c4 c5 c6 c7 c8 c9 c10
    have e1 : nI i + 1 = nI (i + 1) := nadd i 1
    have e2 : nI i + 2 = nI (i + 2) := nadd i 2
    have e3 : nI i + 3 = nI (i + 3) := nadd i 3
    have e4 : nI i + 4 = nI (i + 4) := nadd i 4
    have hdm : ∀ {ρ ρ' : List Nat}, (∀ i ∈ ρ, i ∉ ρ') → ∀ i ∈ ρ', i ∉ ρ := fun z i hi hj => z i hj hi
    iterate 3 refine hX ?_
    refine And.intro ⟨rfl, vp_in_nI (by omega) (by omega)⟩ ?_
    iterate 3 refine hX ?_
    generalize (sc.getD (nI i).toNatClampNeg 0 &&& 31) = w
    have k0 : X B 189 116 [some (.retAddr 7), some (.ref px), some (.ref pm), some (.int (nI i))] [] h Q := by
      iterate 6 refine hX ?_
      rw [e1]
      refine And.intro ⟨rfl, vp_in_nI (by omega) (by omega)⟩ ?_
      rw [nI_clamp (by omega)]
      refine hX ?_
      refine lawX H1 H2 hd hpx [.int (sc.getD (i + 1) 0)] rfl 0 0 ⟨by omega, by omega, by omega⟩ rfl rfl (sType s (sc.getD (i + 1) 0)).2 (some (.int (sType s (sc.getD (i + 1) 0)).1)) rfl (fun Q' hQ' => f_type hX (by show 3 ≤ B.1 - 1; omega) hI (fun f' z => hQ' (f', none, false) z)) (fun f1 hI1 h1 ρ1 a1 a2 a3 a4 => ?_)
      iterate 6 refine hX ?_
      rw [e1]
      refine And.intro ⟨rfl, vp_in_nI (by omega) (by omega)⟩ ?_
      rw [nI_clamp (by omega)]
      refine hX ?_
      refine lawM a2 a1 (hdm a3) hpm [.int (sc.getD (i + 1) 0)] rfl (by show 1 ≤ B.1; omega) rfl rfl (sType s (sc.getD (i + 1) 0)).2 (some (.int (sType s (sc.getD (i + 1) 0)).1)) rfl (fun Q' hQ' => g_type hX (by show 3 ≤ B.1 - 1; omega) hM hQ') (fun m1 hM1 h2 ρ2 c1 c2 c3 c4 => ?_)
      refine hX (And.intro (fun _ => ?_) (fun h => absurd rfl h))
      exact next (B.1, B.2.1 - 0, B.2.2 - 0) _ f1 m1 ρ1 ρ2 h2 b1 (by show n ≤ B.2.1 - 0; omega) (by show 40 * n ≤ B.2.2 - 0; omega) hI1 hM1 c2 c1 (hdm c3) a4 c4
    have k1 : X B 189 139 [some (.retAddr 7), some (.ref px), some (.ref pm), some (.int (nI i))] [] h Q := by
      iterate 2 refine hX ?_
      refine lawX H1 H2 hd hpx [] rfl 0 0 ⟨by omega, by omega, by omega⟩ rfl rfl (sClear s).2 (some (.int (sClear s).1)) rfl (fun Q' hQ' => f_clear hX (by show 3 ≤ B.1 - 1; omega) hI (fun f' z => hQ' (f', none, false) z)) (fun f1 hI1 h1 ρ1 a1 a2 a3 a4 => ?_)
      iterate 2 refine hX ?_
      refine lawM a2 a1 (hdm a3) hpm [] rfl (by show 1 ≤ B.1; omega) rfl rfl (sClear s).2 (some (.int (sClear s).1)) rfl (fun Q' hQ' => g_clear hX (by show 3 ≤ B.1 - 1; omega) hM hQ') (fun m1 hM1 h2 ρ2 c1 c2 c3 c4 => ?_)
      refine hX (And.intro (fun _ => ?_) (fun h => absurd rfl h))
      exact next (B.1, B.2.1 - 0, B.2.2 - 0) _ f1 m1 ρ1 ρ2 h2 b1 (by show n ≤ B.2.1 - 0; omega) (by show 40 * n ≤ B.2.2 - 0; omega) hI1 hM1 c2 c1 (hdm c3) a4 c4
    have k2 : X B 189 152 [some (.retAddr 7), some (.ref px), some (.ref pm), some (.int (nI i))] [] h Q := by
      iterate 2 refine hX ?_
      refine lawX H1 H2 hd hpx [] rfl 0 0 ⟨by omega, by omega, by omega⟩ rfl rfl (sReads s).2 (some (.int (sReads s).1)) rfl (fun Q' hQ' => f_reads hX (by show 8 ≤ B.1 - 1; omega) hI (fun f' z => hQ' (f', none, false) z) (fun f' z => hQ' (f', none, true) z)) (fun f1 hI1 h1 ρ1 a1 a2 a3 a4 => ?_)
      iterate 2 refine hX ?_
      refine lawM a2 a1 (hdm a3) hpm [] rfl (by show 1 ≤ B.1; omega) rfl rfl (sReads s).2 (some (.int (sReads s).1)) rfl (fun Q' hQ' => g_reads hX (by show 11 ≤ B.1 - 1; omega) hM hQ') (fun m1 hM1 h2 ρ2 c1 c2 c3 c4 => ?_)
      refine hX (And.intro (fun _ => ?_) (fun h => absurd rfl h))
      exact next (B.1, B.2.1 - 0, B.2.2 - 0) _ f1 m1 ρ1 ρ2 h2 b1 (by show n ≤ B.2.1 - 0; omega) (by show 40 * n ≤ B.2.2 - 0; omega) hI1 hM1 c2 c1 (hdm c3) a4 c4
    have k3 : X B 189 165 [some (.retAddr 7), some (.ref px), some (.ref pm), some (.int (nI i))] [] h Q := by
      iterate 6 refine hX ?_
      rw [e1]
      refine And.intro ⟨rfl, vp_in_nI (by omega) (by omega)⟩ ?_
      rw [nI_clamp (by omega)]
      refine hX ?_
      refine lawX H1 H2 hd hpx [.int (sc.getD (i + 1) 0)] rfl 0 0 ⟨by omega, by omega, by omega⟩ rfl rfl (sDrops s (sc.getD (i + 1) 0)).2 (some (.int (sDrops s (sc.getD (i + 1) 0)).1)) rfl (fun Q' hQ' => f_drops hX (by show 8 ≤ B.1 - 1; omega) hI (fun f' z => hQ' (f', none, false) z) (fun f' z => hQ' (f', none, true) z)) (fun f1 hI1 h1 ρ1 a1 a2 a3 a4 => ?_)
      iterate 6 refine hX ?_
      rw [e1]
      refine And.intro ⟨rfl, vp_in_nI (by omega) (by omega)⟩ ?_
      rw [nI_clamp (by omega)]
      refine hX ?_
      refine lawM a2 a1 (hdm a3) hpm [.int (sc.getD (i + 1) 0)] rfl (by show 1 ≤ B.1; omega) rfl rfl (sDrops s (sc.getD (i + 1) 0)).2 (some (.int (sDrops s (sc.getD (i + 1) 0)).1)) rfl (fun Q' hQ' => g_drops hX (by show 4 ≤ B.1 - 1; omega) hM hQ') (fun m1 hM1 h2 ρ2 c1 c2 c3 c4 => ?_)
      refine hX (And.intro (fun _ => ?_) (fun h => absurd rfl h))
      exact next (B.1, B.2.1 - 0, B.2.2 - 0) _ f1 m1 ρ1 ρ2 h2 b1 (by show n ≤ B.2.1 - 0; omega) (by show 40 * n ≤ B.2.2 - 0; omega) hI1 hM1 c2 c1 (hdm c3) a4 c4
    have k4 : X B 189 188 [some (.retAddr 7), some (.ref px), some (.ref pm), some (.int (nI i))] [] h Q := by
      iterate 6 refine hX ?_
      rw [e1]
      refine And.intro ⟨rfl, vp_in_nI (by omega) (by omega)⟩ ?_
      rw [nI_clamp (by omega)]
      refine hX ?_
      refine lawX H1 H2 hd hpx [.int (sc.getD (i + 1) 0)] rfl 1 40 ⟨by omega, by omega, by omega⟩ rfl rfl (sTurns s (sc.getD (i + 1) 0)).2 (some (.int (sTurns s (sc.getD (i + 1) 0)).1)) rfl (fun Q' hQ' => f_turns hX ⟨by show 8 ≤ B.1 - 1; omega, Nat.le_refl _, Nat.le_refl _⟩ hI (fun f' z hz y => by
        rcases hz with rfl | ⟨g, rfl⟩
        · exact hQ' (f', none, false) y
        · exact hQ' (f', some g, false) y) (fun f' g y => hQ' (f', some g, true) y)) (fun f1 hI1 h1 ρ1 a1 a2 a3 a4 => ?_)
      iterate 6 refine hX ?_
      rw [e1]
      refine And.intro ⟨rfl, vp_in_nI (by omega) (by omega)⟩ ?_
      rw [nI_clamp (by omega)]
      refine hX ?_
      refine lawM a2 a1 (hdm a3) hpm [.int (sc.getD (i + 1) 0)] rfl (by show 1 ≤ B.1; omega) rfl rfl (sTurns s (sc.getD (i + 1) 0)).2 (some (.int (sTurns s (sc.getD (i + 1) 0)).1)) rfl (fun Q' hQ' => g_turns hX (by show 4 ≤ B.1 - 1; omega) hM hQ') (fun m1 hM1 h2 ρ2 c1 c2 c3 c4 => ?_)
      refine hX (And.intro (fun _ => ?_) (fun h => absurd rfl h))
      exact next (B.1, B.2.1 - 1, B.2.2 - 40) _ f1 m1 ρ1 ρ2 h2 b1 (by show n ≤ B.2.1 - 1; omega) (by show 40 * n ≤ B.2.2 - 40; omega) hI1 hM1 c2 c1 (hdm c3) a4 c4
    have k5 : X B 189 211 [some (.retAddr 7), some (.ref px), some (.ref pm), some (.int (nI i))] [] h Q := by
      iterate 6 refine hX ?_
      rw [e1]
      refine And.intro ⟨rfl, vp_in_nI (by omega) (by omega)⟩ ?_
      rw [nI_clamp (by omega)]
      iterate 5 refine hX ?_
      rw [e2]
      refine And.intro ⟨rfl, vp_in_nI (by omega) (by omega)⟩ ?_
      rw [nI_clamp (by omega)]
      iterate 5 refine hX ?_
      rw [e3]
      refine And.intro ⟨rfl, vp_in_nI (by omega) (by omega)⟩ ?_
      rw [nI_clamp (by omega)]
      refine hX ?_
      refine lawX H1 H2 hd hpx [.int (sc.getD (i + 1) 0), .int (sc.getD (i + 2) 0), .int (sc.getD (i + 3) 0)] rfl 0 0 ⟨by omega, by omega, by omega⟩ rfl rfl (sOf s (sc.getD (i + 1) 0) (sc.getD (i + 2) 0) (sc.getD (i + 3) 0)).2 (some (.int (sOf s (sc.getD (i + 1) 0) (sc.getD (i + 2) 0) (sc.getD (i + 3) 0)).1)) rfl (fun Q' hQ' => f_of hX (by show 5 ≤ B.1 - 1; omega) hI (fun f' z => hQ' (f', none, false) z)) (fun f1 hI1 h1 ρ1 a1 a2 a3 a4 => ?_)
      iterate 6 refine hX ?_
      rw [e1]
      refine And.intro ⟨rfl, vp_in_nI (by omega) (by omega)⟩ ?_
      rw [nI_clamp (by omega)]
      iterate 5 refine hX ?_
      rw [e2]
      refine And.intro ⟨rfl, vp_in_nI (by omega) (by omega)⟩ ?_
      rw [nI_clamp (by omega)]
      iterate 5 refine hX ?_
      rw [e3]
      refine And.intro ⟨rfl, vp_in_nI (by omega) (by omega)⟩ ?_
      rw [nI_clamp (by omega)]
      refine hX ?_
      refine lawM a2 a1 (hdm a3) hpm [.int (sc.getD (i + 1) 0), .int (sc.getD (i + 2) 0), .int (sc.getD (i + 3) 0)] rfl (by show 1 ≤ B.1; omega) rfl rfl (sOf s (sc.getD (i + 1) 0) (sc.getD (i + 2) 0) (sc.getD (i + 3) 0)).2 (some (.int (sOf s (sc.getD (i + 1) 0) (sc.getD (i + 2) 0) (sc.getD (i + 3) 0)).1)) rfl (fun Q' hQ' => g_of hX (by show 6 ≤ B.1 - 1; omega) hM hQ') (fun m1 hM1 h2 ρ2 c1 c2 c3 c4 => ?_)
      refine hX (And.intro (fun _ => ?_) (fun h => absurd rfl h))
      exact next (B.1, B.2.1 - 0, B.2.2 - 0) _ f1 m1 ρ1 ρ2 h2 b1 (by show n ≤ B.2.1 - 0; omega) (by show 40 * n ≤ B.2.2 - 0; omega) hI1 hM1 c2 c1 (hdm c3) a4 c4
    have k6 : X B 189 254 [some (.retAddr 7), some (.ref px), some (.ref pm), some (.int (nI i))] [] h Q := by
      iterate 6 refine hX ?_
      rw [e1]
      refine And.intro ⟨rfl, vp_in_nI (by omega) (by omega)⟩ ?_
      rw [nI_clamp (by omega)]
      iterate 5 refine hX ?_
      rw [e2]
      refine And.intro ⟨rfl, vp_in_nI (by omega) (by omega)⟩ ?_
      rw [nI_clamp (by omega)]
      refine hX ?_
      refine lawX H1 H2 hd hpx [.int (sc.getD (i + 1) 0), .int (sc.getD (i + 2) 0)] rfl 0 0 ⟨by omega, by omega, by omega⟩ rfl rfl (sShown s (sc.getD (i + 1) 0) (sc.getD (i + 2) 0)).2 (some (.int (sShown s (sc.getD (i + 1) 0) (sc.getD (i + 2) 0)).1)) rfl (fun Q' hQ' => f_shown hX (by show 5 ≤ B.1 - 1; omega) hI (fun f' z => hQ' (f', none, false) z)) (fun f1 hI1 h1 ρ1 a1 a2 a3 a4 => ?_)
      iterate 6 refine hX ?_
      rw [e1]
      refine And.intro ⟨rfl, vp_in_nI (by omega) (by omega)⟩ ?_
      rw [nI_clamp (by omega)]
      iterate 5 refine hX ?_
      rw [e2]
      refine And.intro ⟨rfl, vp_in_nI (by omega) (by omega)⟩ ?_
      rw [nI_clamp (by omega)]
      refine hX ?_
      refine lawM a2 a1 (hdm a3) hpm [.int (sc.getD (i + 1) 0), .int (sc.getD (i + 2) 0)] rfl (by show 1 ≤ B.1; omega) rfl rfl (sShown s (sc.getD (i + 1) 0) (sc.getD (i + 2) 0)).2 (some (.int (sShown s (sc.getD (i + 1) 0) (sc.getD (i + 2) 0)).1)) rfl (fun Q' hQ' => g_shown hX (by show 6 ≤ B.1 - 1; omega) hM hQ') (fun m1 hM1 h2 ρ2 c1 c2 c3 c4 => ?_)
      refine hX (And.intro (fun _ => ?_) (fun h => absurd rfl h))
      exact next (B.1, B.2.1 - 0, B.2.2 - 0) _ f1 m1 ρ1 ρ2 h2 b1 (by show n ≤ B.2.1 - 0; omega) (by show 40 * n ≤ B.2.2 - 0; omega) hI1 hM1 c2 c1 (hdm c3) a4 c4
    have k7 : X B 189 287 [some (.retAddr 7), some (.ref px), some (.ref pm), some (.int (nI i))] [] h Q := by
      iterate 6 refine hX ?_
      rw [e1]
      refine And.intro ⟨rfl, vp_in_nI (by omega) (by omega)⟩ ?_
      rw [nI_clamp (by omega)]
      refine hX ?_
      refine lawX H1 H2 hd hpx [.int (sc.getD (i + 1) 0)] rfl 0 0 ⟨by omega, by omega, by omega⟩ rfl rfl (sPairs s (sc.getD (i + 1) 0)).2 (some (.int (sPairs s (sc.getD (i + 1) 0)).1)) rfl (fun Q' hQ' => f_pairs hX (by show 5 ≤ B.1 - 1; omega) hI (fun f' z => hQ' (f', none, false) z)) (fun f1 hI1 h1 ρ1 a1 a2 a3 a4 => ?_)
      iterate 6 refine hX ?_
      rw [e1]
      refine And.intro ⟨rfl, vp_in_nI (by omega) (by omega)⟩ ?_
      rw [nI_clamp (by omega)]
      refine hX ?_
      refine lawM a2 a1 (hdm a3) hpm [.int (sc.getD (i + 1) 0)] rfl (by show 1 ≤ B.1; omega) rfl rfl (sPairs s (sc.getD (i + 1) 0)).2 (some (.int (sPairs s (sc.getD (i + 1) 0)).1)) rfl (fun Q' hQ' => g_pairs hX (by show 9 ≤ B.1 - 1; omega) hM hQ') (fun m1 hM1 h2 ρ2 c1 c2 c3 c4 => ?_)
      refine hX (And.intro (fun _ => ?_) (fun h => absurd rfl h))
      exact next (B.1, B.2.1 - 0, B.2.2 - 0) _ f1 m1 ρ1 ρ2 h2 b1 (by show n ≤ B.2.1 - 0; omega) (by show 40 * n ≤ B.2.2 - 0; omega) hI1 hM1 c2 c1 (hdm c3) a4 c4
    have k8 : X B 189 310 [some (.retAddr 7), some (.ref px), some (.ref pm), some (.int (nI i))] [] h Q := by
      iterate 6 refine hX ?_
      rw [e1]
      refine And.intro ⟨rfl, vp_in_nI (by omega) (by omega)⟩ ?_
      rw [nI_clamp (by omega)]
      iterate 5 refine hX ?_
      rw [e2]
      refine And.intro ⟨rfl, vp_in_nI (by omega) (by omega)⟩ ?_
      rw [nI_clamp (by omega)]
      refine hX ?_
      refine lawX H1 H2 hd hpx [.int (sc.getD (i + 1) 0), .int (sc.getD (i + 2) 0)] rfl 0 0 ⟨by omega, by omega, by omega⟩ rfl rfl (sPair s (sc.getD (i + 1) 0) (sc.getD (i + 2) 0)).2 (some (.int (sPair s (sc.getD (i + 1) 0) (sc.getD (i + 2) 0)).1)) rfl (fun Q' hQ' => f_pair hX (by show 5 ≤ B.1 - 1; omega) hI (fun f' z => hQ' (f', none, false) z)) (fun f1 hI1 h1 ρ1 a1 a2 a3 a4 => ?_)
      iterate 6 refine hX ?_
      rw [e1]
      refine And.intro ⟨rfl, vp_in_nI (by omega) (by omega)⟩ ?_
      rw [nI_clamp (by omega)]
      iterate 5 refine hX ?_
      rw [e2]
      refine And.intro ⟨rfl, vp_in_nI (by omega) (by omega)⟩ ?_
      rw [nI_clamp (by omega)]
      refine hX ?_
      refine lawM a2 a1 (hdm a3) hpm [.int (sc.getD (i + 1) 0), .int (sc.getD (i + 2) 0)] rfl (by show 1 ≤ B.1; omega) rfl rfl (sPair s (sc.getD (i + 1) 0) (sc.getD (i + 2) 0)).2 (some (.int (sPair s (sc.getD (i + 1) 0) (sc.getD (i + 2) 0)).1)) rfl (fun Q' hQ' => g_pair hX (by show 9 ≤ B.1 - 1; omega) hM hQ') (fun m1 hM1 h2 ρ2 c1 c2 c3 c4 => ?_)
      refine hX (And.intro (fun _ => ?_) (fun h => absurd rfl h))
      exact next (B.1, B.2.1 - 0, B.2.2 - 0) _ f1 m1 ρ1 ρ2 h2 b1 (by show n ≤ B.2.1 - 0; omega) (by show 40 * n ≤ B.2.2 - 0; omega) hI1 hM1 c2 c1 (hdm c3) a4 c4
    have k9 : X B 189 343 [some (.retAddr 7), some (.ref px), some (.ref pm), some (.int (nI i))] [] h Q := by
      iterate 2 refine hX ?_
      refine lawX H1 H2 hd hpx [] rfl 0 0 ⟨by omega, by omega, by omega⟩ rfl rfl (sSolutions s).2 (some (.int (sSolutions s).1)) rfl (fun Q' hQ' => f_solutions hX (by show 15 ≤ B.1 - 1; omega) hI (fun f' z => hQ' (f', none, false) z)) (fun f1 hI1 h1 ρ1 a1 a2 a3 a4 => ?_)
      iterate 2 refine hX ?_
      refine lawM a2 a1 (hdm a3) hpm [] rfl (by show 1 ≤ B.1; omega) rfl rfl (sSolutions s).2 (some (.int (sSolutions s).1)) rfl (fun Q' hQ' => g_solutions hX (by show 13 ≤ B.1 - 1; omega) hM hQ') (fun m1 hM1 h2 ρ2 c1 c2 c3 c4 => ?_)
      refine hX (And.intro (fun _ => ?_) (fun h => absurd rfl h))
      exact next (B.1, B.2.1 - 0, B.2.2 - 0) _ f1 m1 ρ1 ρ2 h2 b1 (by show n ≤ B.2.1 - 0; omega) (by show 40 * n ≤ B.2.2 - 0; omega) hI1 hM1 c2 c1 (hdm c3) a4 c4
    have k10 : X B 189 356 [some (.retAddr 7), some (.ref px), some (.ref pm), some (.int (nI i))] [] h Q := by
      iterate 6 refine hX ?_
      rw [e1]
      refine And.intro ⟨rfl, vp_in_nI (by omega) (by omega)⟩ ?_
      rw [nI_clamp (by omega)]
      refine hX ?_
      refine lawX H1 H2 hd hpx [.int (sc.getD (i + 1) 0)] rfl 0 0 ⟨by omega, by omega, by omega⟩ rfl rfl (sSize s (sc.getD (i + 1) 0)).2 (some (.int (sSize s (sc.getD (i + 1) 0)).1)) rfl (fun Q' hQ' => f_size hX (by show 15 ≤ B.1 - 1; omega) hI (fun f' z => hQ' (f', none, false) z)) (fun f1 hI1 h1 ρ1 a1 a2 a3 a4 => ?_)
      iterate 6 refine hX ?_
      rw [e1]
      refine And.intro ⟨rfl, vp_in_nI (by omega) (by omega)⟩ ?_
      rw [nI_clamp (by omega)]
      refine hX ?_
      refine lawM a2 a1 (hdm a3) hpm [.int (sc.getD (i + 1) 0)] rfl (by show 1 ≤ B.1; omega) rfl rfl (sSize s (sc.getD (i + 1) 0)).2 (some (.int (sSize s (sc.getD (i + 1) 0)).1)) rfl (fun Q' hQ' => g_size hX (by show 13 ≤ B.1 - 1; omega) hM hQ') (fun m1 hM1 h2 ρ2 c1 c2 c3 c4 => ?_)
      refine hX (And.intro (fun _ => ?_) (fun h => absurd rfl h))
      exact next (B.1, B.2.1 - 0, B.2.2 - 0) _ f1 m1 ρ1 ρ2 h2 b1 (by show n ≤ B.2.1 - 0; omega) (by show 40 * n ≤ B.2.2 - 0; omega) hI1 hM1 c2 c1 (hdm c3) a4 c4
    have k11 : X B 189 379 [some (.retAddr 7), some (.ref px), some (.ref pm), some (.int (nI i))] [] h Q := by
      iterate 6 refine hX ?_
      rw [e1]
      refine And.intro ⟨rfl, vp_in_nI (by omega) (by omega)⟩ ?_
      rw [nI_clamp (by omega)]
      iterate 5 refine hX ?_
      rw [e2]
      refine And.intro ⟨rfl, vp_in_nI (by omega) (by omega)⟩ ?_
      rw [nI_clamp (by omega)]
      iterate 5 refine hX ?_
      rw [e3]
      refine And.intro ⟨rfl, vp_in_nI (by omega) (by omega)⟩ ?_
      rw [nI_clamp (by omega)]
      refine hX ?_
      refine lawX H1 H2 hd hpx [.int (sc.getD (i + 1) 0), .int (sc.getD (i + 2) 0), .int (sc.getD (i + 3) 0)] rfl 0 0 ⟨by omega, by omega, by omega⟩ rfl rfl (sBody s (sc.getD (i + 1) 0) (sc.getD (i + 2) 0) (sc.getD (i + 3) 0)).2 (some (.int (sBody s (sc.getD (i + 1) 0) (sc.getD (i + 2) 0) (sc.getD (i + 3) 0)).1)) rfl (fun Q' hQ' => f_body hX (by show 15 ≤ B.1 - 1; omega) hI (fun f' z => hQ' (f', none, false) z)) (fun f1 hI1 h1 ρ1 a1 a2 a3 a4 => ?_)
      iterate 6 refine hX ?_
      rw [e1]
      refine And.intro ⟨rfl, vp_in_nI (by omega) (by omega)⟩ ?_
      rw [nI_clamp (by omega)]
      iterate 5 refine hX ?_
      rw [e2]
      refine And.intro ⟨rfl, vp_in_nI (by omega) (by omega)⟩ ?_
      rw [nI_clamp (by omega)]
      iterate 5 refine hX ?_
      rw [e3]
      refine And.intro ⟨rfl, vp_in_nI (by omega) (by omega)⟩ ?_
      rw [nI_clamp (by omega)]
      refine hX ?_
      refine lawM a2 a1 (hdm a3) hpm [.int (sc.getD (i + 1) 0), .int (sc.getD (i + 2) 0), .int (sc.getD (i + 3) 0)] rfl (by show 1 ≤ B.1; omega) rfl rfl (sBody s (sc.getD (i + 1) 0) (sc.getD (i + 2) 0) (sc.getD (i + 3) 0)).2 (some (.int (sBody s (sc.getD (i + 1) 0) (sc.getD (i + 2) 0) (sc.getD (i + 3) 0)).1)) rfl (fun Q' hQ' => g_body hX (by show 13 ≤ B.1 - 1; omega) hM hQ') (fun m1 hM1 h2 ρ2 c1 c2 c3 c4 => ?_)
      refine hX (And.intro (fun _ => ?_) (fun h => absurd rfl h))
      exact next (B.1, B.2.1 - 0, B.2.2 - 0) _ f1 m1 ρ1 ρ2 h2 b1 (by show n ≤ B.2.1 - 0; omega) (by show 40 * n ≤ B.2.2 - 0; omega) hI1 hM1 c2 c1 (hdm c3) a4 c4
    have k12 : X B 189 422 [some (.retAddr 7), some (.ref px), some (.ref pm), some (.int (nI i))] [] h Q := by
      iterate 6 refine hX ?_
      rw [e1]
      refine And.intro ⟨rfl, vp_in_nI (by omega) (by omega)⟩ ?_
      rw [nI_clamp (by omega)]
      iterate 5 refine hX ?_
      rw [e2]
      refine And.intro ⟨rfl, vp_in_nI (by omega) (by omega)⟩ ?_
      rw [nI_clamp (by omega)]
      iterate 5 refine hX ?_
      rw [e3]
      refine And.intro ⟨rfl, vp_in_nI (by omega) (by omega)⟩ ?_
      rw [nI_clamp (by omega)]
      iterate 5 refine hX ?_
      rw [e4]
      refine And.intro ⟨rfl, vp_in_nI (by omega) (by omega)⟩ ?_
      rw [nI_clamp (by omega)]
      refine hX ?_
      refine lawX H1 H2 hd hpx [.int (sc.getD (i + 1) 0), .int (sc.getD (i + 2) 0), .int (sc.getD (i + 3) 0), .int (sc.getD (i + 4) 0)] rfl 0 0 ⟨by omega, by omega, by omega⟩ rfl rfl (sBecomes s (sc.getD (i + 1) 0) (sc.getD (i + 2) 0) (sc.getD (i + 3) 0) (sc.getD (i + 4) 0)).2 (some (.int (sBecomes s (sc.getD (i + 1) 0) (sc.getD (i + 2) 0) (sc.getD (i + 3) 0) (sc.getD (i + 4) 0)).1)) rfl (fun Q' hQ' => f_becomes hX (by show 15 ≤ B.1 - 1; omega) hI (fun f' z => hQ' (f', none, false) z)) (fun f1 hI1 h1 ρ1 a1 a2 a3 a4 => ?_)
      iterate 6 refine hX ?_
      rw [e1]
      refine And.intro ⟨rfl, vp_in_nI (by omega) (by omega)⟩ ?_
      rw [nI_clamp (by omega)]
      iterate 5 refine hX ?_
      rw [e2]
      refine And.intro ⟨rfl, vp_in_nI (by omega) (by omega)⟩ ?_
      rw [nI_clamp (by omega)]
      iterate 5 refine hX ?_
      rw [e3]
      refine And.intro ⟨rfl, vp_in_nI (by omega) (by omega)⟩ ?_
      rw [nI_clamp (by omega)]
      iterate 5 refine hX ?_
      rw [e4]
      refine And.intro ⟨rfl, vp_in_nI (by omega) (by omega)⟩ ?_
      rw [nI_clamp (by omega)]
      refine hX ?_
      refine lawM a2 a1 (hdm a3) hpm [.int (sc.getD (i + 1) 0), .int (sc.getD (i + 2) 0), .int (sc.getD (i + 3) 0), .int (sc.getD (i + 4) 0)] rfl (by show 1 ≤ B.1; omega) rfl rfl (sBecomes s (sc.getD (i + 1) 0) (sc.getD (i + 2) 0) (sc.getD (i + 3) 0) (sc.getD (i + 4) 0)).2 (some (.int (sBecomes s (sc.getD (i + 1) 0) (sc.getD (i + 2) 0) (sc.getD (i + 3) 0) (sc.getD (i + 4) 0)).1)) rfl (fun Q' hQ' => g_becomes hX (by show 13 ≤ B.1 - 1; omega) hM hQ') (fun m1 hM1 h2 ρ2 c1 c2 c3 c4 => ?_)
      refine hX (And.intro (fun _ => ?_) (fun h => absurd rfl h))
      exact next (B.1, B.2.1 - 0, B.2.2 - 0) _ f1 m1 ρ1 ρ2 h2 b1 (by show n ≤ B.2.1 - 0; omega) (by show 40 * n ≤ B.2.2 - 0; omega) hI1 hM1 c2 c1 (hdm c3) a4 c4
    have k13 : X B 189 475 [some (.retAddr 7), some (.ref px), some (.ref pm), some (.int (nI i))] [] h Q := by
      iterate 6 refine hX ?_
      rw [e1]
      refine And.intro ⟨rfl, vp_in_nI (by omega) (by omega)⟩ ?_
      rw [nI_clamp (by omega)]
      iterate 5 refine hX ?_
      rw [e2]
      refine And.intro ⟨rfl, vp_in_nI (by omega) (by omega)⟩ ?_
      rw [nI_clamp (by omega)]
      refine hX ?_
      refine lawX H1 H2 hd hpx [.int (sc.getD (i + 1) 0), .int (sc.getD (i + 2) 0)] rfl 0 0 ⟨by omega, by omega, by omega⟩ rfl rfl (sBodies s (sc.getD (i + 1) 0) (sc.getD (i + 2) 0)).2 (some (.int (sBodies s (sc.getD (i + 1) 0) (sc.getD (i + 2) 0)).1)) rfl (fun Q' hQ' => f_bodies hX (by show 5 ≤ B.1 - 1; omega) hI (fun f' z => hQ' (f', none, false) z)) (fun f1 hI1 h1 ρ1 a1 a2 a3 a4 => ?_)
      iterate 6 refine hX ?_
      rw [e1]
      refine And.intro ⟨rfl, vp_in_nI (by omega) (by omega)⟩ ?_
      rw [nI_clamp (by omega)]
      iterate 5 refine hX ?_
      rw [e2]
      refine And.intro ⟨rfl, vp_in_nI (by omega) (by omega)⟩ ?_
      rw [nI_clamp (by omega)]
      refine hX ?_
      refine lawM a2 a1 (hdm a3) hpm [.int (sc.getD (i + 1) 0), .int (sc.getD (i + 2) 0)] rfl (by show 1 ≤ B.1; omega) rfl rfl (sBodies s (sc.getD (i + 1) 0) (sc.getD (i + 2) 0)).2 (some (.int (sBodies s (sc.getD (i + 1) 0) (sc.getD (i + 2) 0)).1)) rfl (fun Q' hQ' => g_bodies hX (by show 5 ≤ B.1 - 1; omega) hM hQ') (fun m1 hM1 h2 ρ2 c1 c2 c3 c4 => ?_)
      refine hX (And.intro (fun _ => ?_) (fun h => absurd rfl h))
      exact next (B.1, B.2.1 - 0, B.2.2 - 0) _ f1 m1 ρ1 ρ2 h2 b1 (by show n ≤ B.2.1 - 0; omega) (by show 40 * n ≤ B.2.2 - 0; omega) hI1 hM1 c2 c1 (hdm c3) a4 c4
    have k14 : X B 189 508 [some (.retAddr 7), some (.ref px), some (.ref pm), some (.int (nI i))] [] h Q := by
      iterate 2 refine hX ?_
      refine lawX H1 H2 hd hpx [] rfl 0 0 ⟨by omega, by omega, by omega⟩ rfl rfl (sBack s).2 (some (.int (sBack s).1)) rfl (fun Q' hQ' => f_back hX (by show 8 ≤ B.1 - 1; omega) hI (fun f' z => hQ' (f', none, false) z)) (fun f1 hI1 h1 ρ1 a1 a2 a3 a4 => ?_)
      iterate 2 refine hX ?_
      refine lawM a2 a1 (hdm a3) hpm [] rfl (by show 1 ≤ B.1; omega) rfl rfl (sBack s).2 (some (.int (sBack s).1)) rfl (fun Q' hQ' => g_back hX (by show 4 ≤ B.1 - 1; omega) hM hQ') (fun m1 hM1 h2 ρ2 c1 c2 c3 c4 => ?_)
      refine hX (And.intro (fun _ => ?_) (fun h => absurd rfl h))
      exact next (B.1, B.2.1 - 0, B.2.2 - 0) _ f1 m1 ρ1 ρ2 h2 b1 (by show n ≤ B.2.1 - 0; omega) (by show 40 * n ≤ B.2.2 - 0; omega) hI1 hM1 c2 c1 (hdm c3) a4 c4
    have k15 : X B 189 521 [some (.retAddr 7), some (.ref px), some (.ref pm), some (.int (nI i))] [] h Q := by
      iterate 6 refine hX ?_
      rw [e1]
      refine And.intro ⟨rfl, vp_in_nI (by omega) (by omega)⟩ ?_
      rw [nI_clamp (by omega)]
      refine hX ?_
      refine lawX H1 H2 hd hpx [.int (sc.getD (i + 1) 0)] rfl 0 0 ⟨by omega, by omega, by omega⟩ rfl rfl (sTold s (sc.getD (i + 1) 0)).2 (some (.int (sTold s (sc.getD (i + 1) 0)).1)) rfl (fun Q' hQ' => f_told hX (by show 5 ≤ B.1 - 1; omega) hI (fun f' z => hQ' (f', none, false) z)) (fun f1 hI1 h1 ρ1 a1 a2 a3 a4 => ?_)
      iterate 6 refine hX ?_
      rw [e1]
      refine And.intro ⟨rfl, vp_in_nI (by omega) (by omega)⟩ ?_
      rw [nI_clamp (by omega)]
      refine hX ?_
      refine lawM a2 a1 (hdm a3) hpm [.int (sc.getD (i + 1) 0)] rfl (by show 1 ≤ B.1; omega) rfl rfl (sTold s (sc.getD (i + 1) 0)).2 (some (.int (sTold s (sc.getD (i + 1) 0)).1)) rfl (fun Q' hQ' => g_told hX (by show 5 ≤ B.1 - 1; omega) hM hQ') (fun m1 hM1 h2 ρ2 c1 c2 c3 c4 => ?_)
      refine hX (And.intro (fun _ => ?_) (fun h => absurd rfl h))
      exact next (B.1, B.2.1 - 0, B.2.2 - 0) _ f1 m1 ρ1 ρ2 h2 b1 (by show n ≤ B.2.1 - 0; omega) (by show 40 * n ≤ B.2.2 - 0; omega) hI1 hM1 c2 c1 (hdm c3) a4 c4
    have k16 : X B 189 544 [some (.retAddr 7), some (.ref px), some (.ref pm), some (.int (nI i))] [] h Q := by
      iterate 2 refine hX ?_
      refine lawX H1 H2 hd hpx [] rfl 0 0 ⟨by omega, by omega, by omega⟩ rfl rfl (sDigest s).2 (some (.long (sDigest s).1)) rfl (fun Q' hQ' => f_digest hX (by show 15 ≤ B.1 - 1; omega) hI (fun f' z => hQ' (f', none, false) z)) (fun f1 hI1 h1 ρ1 a1 a2 a3 a4 => ?_)
      iterate 2 refine hX ?_
      refine lawM a2 a1 (hdm a3) hpm [] rfl (by show 1 ≤ B.1; omega) rfl rfl (sDigest s).2 (some (.long (sDigest s).1)) rfl (fun Q' hQ' => g_digest hX (by show 13 ≤ B.1 - 1; omega) hM hQ') (fun m1 hM1 h2 ρ2 c1 c2 c3 c4 => ?_)
      iterate 2 refine hX ?_
      refine And.intro (fun _ => ?_) (fun h => absurd (cmpL_self _) h)
      exact next (B.1, B.2.1 - 0, B.2.2 - 0) _ f1 m1 ρ1 ρ2 h2 b1 (by show n ≤ B.2.1 - 0; omega) (by show 40 * n ≤ B.2.2 - 0; omega) hI1 hM1 c2 c1 (hdm c3) a4 c4
    have kd : X B 189 558 [some (.retAddr 7), some (.ref px), some (.ref pm), some (.int (nI i))] [] h Q := next B s f m ρx ρm h b1 (by omega) (by omega) hI hM H1 H2 hd hpx hpm
    exact And.intro (fun _ => k0) (fun _ => And.intro (fun _ => k1) (fun _ => And.intro (fun _ => k2) (fun _ => And.intro (fun _ => k3) (fun _ => And.intro (fun _ => k4) (fun _ => And.intro (fun _ => k5) (fun _ => And.intro (fun _ => k6) (fun _ => And.intro (fun _ => k7) (fun _ => And.intro (fun _ => k8) (fun _ => And.intro (fun _ => k9) (fun _ => And.intro (fun _ => k10) (fun _ => And.intro (fun _ => k11) (fun _ => And.intro (fun _ => k12) (fun _ => And.intro (fun _ => k13) (fun _ => And.intro (fun _ => k14) (fun _ => And.intro (fun _ => k15) (fun _ => And.intro (fun _ => k16) (fun _ => kd)))))))))))))))))
theorem law_pure {sc : List Int32} {X : pX} (hX : Cl sc X) (hsc : sc.length ≤ 2560) : X (1000, 600000, 7302250) 189 0 [some (.retAddr 7), none, none, none] [] [] (fun r _ => r = some (.int 1)) := by
  refine hX ?_
  refine And.intro ⟨by decide, by decide⟩ ?_
  iterate 2 refine hX ?_
  refine And.intro trivial (cNU [0] [.ref 0] [.inr (10, [.null, .null, .null, .null, .null, .null, .null, .null, .null, .int 0, .int 0, .int 0])] (fun u : FT => FIf ([], [], [], 0, 0, 0) u) (fun _ => none) (fun u => FWf fr0 u []) (fun u => FWf fr0 u []) (fun _ => [.ref 0]) 71 12000 ⟨by decide, by decide, by decide⟩ rfl rfl rfl (fun _ => Nat.le_of_ble_eq_true rfl) (fun _ => rfl) (fun _ => rfl) (fun Q' hQ' => f_new hX ⟨by decide, Nat.le_refl _, Nat.le_refl _⟩ hQ') (fun f hI => ?_))
  iterate 2 refine hX ?_
  refine And.intro ⟨by decide, by decide⟩ ?_
  iterate 2 refine hX ?_
  have hm : ∀ u : List Int32 × List Int32, hld (MWf (List.replicate 49 0, List.replicate 49 0, List.replicate 245 0, 0, List.replicate 3 0, List.replicate 120 0, 0, u.1, u.2, 0, 0, List.replicate 41 0, 0, List.replicate 200 0, 0, List.replicate 24 0, List.replicate 24 0, 0, List.replicate 6 0, List.replicate 6 0, 0, List.replicate 6 0, List.replicate 240 0, List.replicate 40 0, 0, List.replicate 48 0, List.replicate 300 0, List.replicate 300 0, 0, List.replicate 400 0, 0)) rf21 (MWf (List.replicate 49 0, List.replicate 49 0, List.replicate 245 0, 0, List.replicate 3 0, List.replicate 120 0, 0, u.1, u.2, 0, 0, List.replicate 41 0, 0, List.replicate 200 0, 0, List.replicate 24 0, List.replicate 24 0, 0, List.replicate 6 0, List.replicate 6 0, 0, List.replicate 6 0, List.replicate 240 0, List.replicate 40 0, 0, List.replicate 48 0, List.replicate 300 0, List.replicate 300 0, 0, List.replicate 400 0, 0)) := fun u => hs_M _
  refine And.intro trivial (lawCall (ρ := [72]) (ρo := rf72) (ho := FWf fr0 f []) (hc := [.inr (11, [.null, .null, .null, .int 0, .null, .null, .int 0, .null, .null, .int 0, .int 0, .null, .int 0, .null, .int 0, .null, .null, .int 0, .null, .null, .int 0, .null, .null, .null, .int 0, .null, .null, .null, .int 0, .null, .long 0])]) (p := 72) ⟨rfl, rfl⟩ ⟨rfl, rfl⟩ (by decide) rfl [] rfl 20 3945 ⟨by decide, by decide, by decide⟩ rfl rfl (fun u : List Int32 × List Int32 => tbB (BTf 18) u.1 ∧ ssR 21 u.2) (fun _ => none) (fun u => MWf (List.replicate 49 0, List.replicate 49 0, List.replicate 245 0, 0, List.replicate 3 0, List.replicate 120 0, 0, u.1, u.2, 0, 0, List.replicate 41 0, 0, List.replicate 200 0, 0, List.replicate 24 0, List.replicate 24 0, 0, List.replicate 6 0, List.replicate 6 0, 0, List.replicate 6 0, List.replicate 240 0, List.replicate 40 0, 0, List.replicate 48 0, List.replicate 300 0, List.replicate 300 0, 0, List.replicate 400 0, 0)) (fun _ => rf21) (fun u => MWf (List.replicate 49 0, List.replicate 49 0, List.replicate 245 0, 0, List.replicate 3 0, List.replicate 120 0, 0, u.1, u.2, 0, 0, List.replicate 41 0, 0, List.replicate 200 0, 0, List.replicate 24 0, List.replicate 24 0, 0, List.replicate 6 0, List.replicate 6 0, 0, List.replicate 6 0, List.replicate 240 0, List.replicate 40 0, 0, List.replicate 48 0, List.replicate 300 0, List.replicate 300 0, 0, List.replicate 400 0, 0)) (fun _ => rfl) (fun _ => Nat.le_of_ble_eq_true rfl) hm (fun u => rf_M _) (fun _ => rfl) (fun Q' hQ' => m_Model hX ⟨by decide, Nat.le_refl _, Nat.le_refl _⟩ (fun bo ss a b => hQ' (bo, ss) ⟨a, b⟩)) (fun u hu h' ρ' a1 a2 a3 a4 => ?_))
  iterate 3 refine hX ?_
  refine law_loop hX hsc (fun _ => rfl) 512 0 (by omega) (by omega) _ ([], [], [], 0, 0, 0) f (List.replicate 49 0, List.replicate 49 0, List.replicate 245 0, 0, List.replicate 3 0, List.replicate 120 0, 0, u.1, u.2, 0, 0, List.replicate 41 0, 0, List.replicate 200 0, 0, List.replicate 24 0, List.replicate 24 0, 0, List.replicate 6 0, List.replicate 6 0, 0, List.replicate 6 0, List.replicate 240 0, List.replicate 40 0, 0, List.replicate 48 0, List.replicate 300 0, List.replicate 300 0, 0, List.replicate 400 0, 0) rf72 ρ' 0 72 h' (by decide) (by decide) (by decide) hI ?_ a2 a1 (fun i hi hj => a3 i hj hi) rfl a4
  exact ⟨⟨gE_nil, rfl⟩, ⟨⟨⟨List.length_replicate, by simp, fun E hE => by simp at hE⟩, fun i hi => by simp at hi⟩, rfl⟩, rfl, ⟨by simp, List.length_replicate, rfl, rfl⟩, hu, ⟨List.length_replicate, List.length_replicate, List.length_replicate, List.length_replicate, List.length_replicate⟩, ⟨List.length_replicate, List.length_replicate, List.length_replicate, List.length_replicate, List.length_replicate, List.length_replicate, List.length_replicate, List.length_replicate, List.length_replicate⟩⟩
