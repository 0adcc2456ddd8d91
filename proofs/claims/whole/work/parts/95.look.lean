/-! Search: through the CHOICES. -/
theorem take40 {α : Type} (A B C : List α) : ((A ++ B).take 40 ++ C).take 40 = (A ++ (B ++ C)).take 40 := by
  rw [← List.append_assoc, List.take_append, List.take_append (l₁ := A ++ B), List.take_take, Nat.min_self]
  congr 1
  rw [List.length_take]
  by_cases h : (A ++ B).length ≤ 40
  · rw [Nat.min_eq_right h]
  · rw [Nat.min_eq_left (by omega), show 40 - (A ++ B).length = 0 by omega]
theorem take40_full {α : Type} {A : List α} (h : A.length = 40) (B : List α) : (A ++ B).take 40 = A := by
  rw [List.take_append_of_le_length (by omega), List.take_of_length_le (by omega)]
theorem arI_85 : ∀ x, x < 6 → arI (85 + nI x) = nI (x % 3) := by decide +kernel
theorem ext_getD {α : Type} {l l' : List α} (d : α) (hl : l.length = l'.length) (h : ∀ y, l.getD y d = l'.getD y d) : l = l' := by
  apply List.ext_getElem hl
  intro i h1 h2
  have := h i
  rw [List.getD_eq_getElem?_getD, List.getD_eq_getElem?_getD, List.getElem?_eq_getElem h1, List.getElem?_eq_getElem h2] at this
  exact this
theorem enum_base : ∀ (r : List Nat) (left : Nat) (bs bs' : List (List Nat)), bs.length = bs'.length → (∀ y, y ∉ r → bs.getD y [] = bs'.getD y []) → enum r left bs = enum r left bs'
  | [], left, bs, bs', hl, h => by rw [ext_getD [] hl (fun y => h y (by simp))]
  | x :: r, left, bs, bs', hl, h => by
    rw [enum, enum]
    congr 1
    funext s
    congr 1
    funext b
    refine enum_base r _ _ _ (by rw [List.length_set, List.length_set, hl]) (fun y hy => ?_)
    by_cases e : x = y
    · subst e
      by_cases hx : x < bs.length
      · rw [getD_set_eq hx, getD_set_eq (by omega)]
      · rw [List.set_eq_of_length_le (by omega), List.set_eq_of_length_le (by omega), getD_out (by omega), getD_out (by omega)]
    · rw [getD_set_ne e, getD_set_ne e]
      exact h y (by simp [hy]; exact fun q => e q.symm)
section LK
variable {sc : List Int32} {X : pX} {E : List (List Int32)} {P : List (Nat × Nat)} {L S N D C lf rt bw bf kn sn stn lst : List Int32} {tt bn kw : Int32} {st : List Nat} {fl : Nat → Nat} {g : List (List Nat) → Bool}
/-- what is laid before the search -/
def LKh (E : List (List Int32)) (P : List (Nat × Nat)) (st : List Nat) (fl : Nat → Nat) (stn lst : List Int32) (g : List (List Nat) → Bool) : Prop :=
  (st.length ≤ 6 ∧ stn.length = 6 ∧ lst.length = 20 ∧ st.Pairwise (· < ·) ∧ (∀ y ∈ st, y < 6) ∧ ∀ i, i < st.length → stn.getD i 0 = nI (st.getD i 0)) ∧
  (∀ c ∈ E.flatten, fxI c = 1 → kN c ∈ st) ∧
  (∀ i, i < P.length → lst.getD i 0 = nI (fl i) ∧ fl i ∈ st ∧ (∀ c ∈ tmL E.flatten (P.getD i (0, 0)).1, fxI c = 1 → kN c ≤ fl i) ∧ (∀ c ∈ tmL E.flatten (P.getD i (0, 0)).2, fxI c = 1 → kN c ≤ fl i)) ∧
  ∀ bs, rig bs → chs bs st → (g bs = true ↔ fitL E bs ∧ ∀ i, i < P.length → agP E.flatten bs (P.getD i (0, 0)))
theorem kN_rig {c : Int32} (h : ¬ kdI c = -1) (hf : ¬ fxI c = 1) : 6 ≤ kN c := by
  have key : ∀ c ∈ ([85, 86, 87, 88, 89, 90, 97, 98, 102, 103] : List Int32), fxI c = 1 ∨ 6 ≤ kN c := by decide
  rcases key c (letters10 h) with h | h
  · exact absurd h hf
  · exact h
/-- letters of a PAIR whose last letter is among the first -/
theorem LKh.dn (hS : SC E P L S N D C lf rt bw bf kn sn) (hK : LKh E P st fl stn lst g) {dn r : List Nat} (hst : st = dn ++ r) {i : Nat} (hi : i < P.length) (hf : fl i ∈ dn) {c : Int32} (hc : c ∈ tmL E.flatten (P.getD i (0, 0)).1 ∨ c ∈ tmL E.flatten (P.getD i (0, 0)).2) : fxI c = 1 → kN c ∈ dn := by
  intro h1
  obtain ⟨⟨-, -, -, hp, -, -⟩, k2, k3, -⟩ := hK
  obtain ⟨-, -, a1, a2⟩ := k3 i hi
  have hm : c ∈ E.flatten := by
    rcases hc with hc | hc
    · exact tmL_mem hc
    · exact tmL_mem hc
  have hle : kN c ≤ fl i := by
    rcases hc with hc | hc
    · exact a1 c hc h1
    · exact a2 c hc h1
  have := k2 c hm h1
  rw [hst, List.mem_append] at this
  rcases this with h | h
  · exact h
  · rw [hst, List.pairwise_append] at hp
    have := hp.2.2 _ hf _ h
    omega
theorem LKh.cong (hS : SC E P L S N D C lf rt bw bf kn sn) (hK : LKh E P st fl stn lst g) {dn r : List Nat} (hst : st = dn ++ r) {i : Nat} (hi : i < P.length) (hf : fl i ∈ dn) {bs bs' : List (List Nat)} (h : ∀ y, y ∈ dn ∨ 6 ≤ y → bs.getD y [] = bs'.getD y []) : agP E.flatten bs (P.getD i (0, 0)) ↔ agP E.flatten bs' (P.getD i (0, 0)) := by
  have key : ∀ c, (c ∈ tmL E.flatten (P.getD i (0, 0)).1 ∨ c ∈ tmL E.flatten (P.getD i (0, 0)).2) → bs.getD (kN c) [] = bs'.getD (kN c) [] := by
    intro c hc
    have hm : c ∈ E.flatten := by
      rcases hc with hc | hc
      · exact tmL_mem hc
      · exact tmL_mem hc
    by_cases h1 : fxI c = 1
    · exact h _ (Or.inl (hK.dn hS hst hi hf hc h1))
    · exact h _ (Or.inr (kN_rig (hS.1.2.2.2 c hm) h1))
  exact agP_congr (hS.2.1.2 _ (getD_mem hi)) (fun c hc => key c (Or.inl hc)) (fun c hc => key c (Or.inr hc))
theorem LKh.cut (hS : SC E P L S N D C lf rt bw bf kn sn) (hK : LKh E P st fl stn lst g) {dn r : List Nat} {x : Nat} (hst : st = dn ++ x :: r) {bs : List (List Nat)} (hl : bs.length = 10) (hr : rig bs) (hc : chs bs (dn ++ [x])) {left : Nat} (h1 : r.length ≤ left) (h2 : left ≤ 6) (hno : ¬ ∀ j, j < P.length → lst.getD j 0 = nI x → agP E.flatten bs (P.getD j (0, 0))) : (enum r left bs).filter g = [] := by
  rw [List.filter_eq_nil_iff]
  intro bs2 hm hg
  obtain ⟨⟨k1, -, -, kp, k6, -⟩, -, k3, k4⟩ := id hK
  have hn : st.Nodup := kp.imp (fun h => by omega)
  have hn2 := hn
  rw [hst, List.nodup_append] at hn2
  obtain ⟨n1, n2, n3⟩ := hn2
  rw [List.nodup_cons] at n2
  obtain ⟨e1, e2, e3⟩ := enum_mem r left bs bs2 n2.2 (fun y hy => by have := k6 y (by rw [hst]; simp [hy]); omega) h1 h2 hm
  have hdx : ∀ y, y ∈ dn ++ [x] ∨ 6 ≤ y → bs2.getD y [] = bs.getD y [] := by
    intro y hy
    refine e2 y (fun hyr => ?_)
    rcases hy with hy | hy
    · rw [List.mem_append, List.mem_singleton] at hy
      rcases hy with hy | rfl
      · exact n3 y hy y (List.mem_cons_of_mem _ hyr) rfl
      · exact n2.1 hyr
    · have := k6 y (by rw [hst]; simp [hyr]); omega
  refine hno (fun j hj hjx => ?_)
  obtain ⟨a1, a2, -, -⟩ := k3 j hj
  have hfx : fl j = x := by
    rw [a1] at hjx
    have := k6 _ a2
    have := k6 x (by rw [hst]; simp)
    exact (neq (by omega) (by omega)).mp hjx
  have hrig2 : rig bs2 := fun k h6 h10 => by rw [hdx k (Or.inr h6)]; exact hr k h6 h10
  have hch2 : chs bs2 st := by
    intro y hy
    rw [hst, List.mem_append, List.mem_cons] at hy
    rcases hy with hy | rfl | hy
    · rw [hdx y (Or.inl (by simp [hy]))]; exact hc y (by simp [hy])
    · rw [hdx y (Or.inl (by simp))]; exact hc y (by simp)
    · exact e3 y hy
  have := ((k4 bs2 hrig2 hch2).mp hg).2 j hj
  exact (hK.cong hS (dn := dn ++ [x]) (r := r) (by rw [hst]; simp) hj (by rw [hfx]; simp) (fun y hy => hdx y hy)).mp this
/-- the state while solutions are looked for -/
def LKs (E : List (List Int32)) (bs : List (List Nat)) (A : List (List (List Nat))) (w p o t sz pl gw ws : List Int32) : Prop := (chR bs w p o t ∧ rig bs) ∧ (szI sz ∧ pl.length = 40 ∧ gw.length = 8000) ∧ slR A ws
theorem t_look (hX : Cl sc X) (hS : SC E P L S N D C lf rt bw bf kn sn) (hK : LKh E P st fl stn lst g) :
    ∀ (r dn : List Nat), st = dn ++ r → ∀ (B : pB) (left : Nat) (bs : List (List Nat)) (A : List (List (List Nat))) (w p o t sz pl gw : List Int32) (us : Int32) (ws : List Int32) (Q : pQ), 6 + r.length ≤ B.1 → r.length ≤ left → left ≤ 6 → LKs E bs A w p o t sz pl gw ws → chs bs dn → (∀ i, i < P.length → fl i ∈ dn → agP E.flatten bs (P.getD i (0, 0))) →
      (∀ bs' A' w p o t sz pl gw us ws, LKs E bs' A' w p o t sz pl gw ws → (∀ y, y ∉ r → bs'.getD y [] = bs.getD y []) → A' = (A ++ (enum r left bs).filter g).take 40 → Q none (SeW L S N D C (nI E.length) tt lf rt (nI P.length) bw bf bn w p o t kn sn sz pl gw us stn lst ws (nI st.length) (nI A'.length) kw)) →
      X B 69 0 [some (.ref 0), some (.int (nI dn.length)), some (.int (nI left)), none, none, none, none, none, none] [] (SeW L S N D C (nI E.length) tt lf rt (nI P.length) bw bf bn w p o t kn sn sz pl gw us stn lst ws (nI st.length) (nI A.length) kw) Q := by
  obtain ⟨⟨k1, ks, kl, kp, k6, kst⟩, k2, k3, k4⟩ := id hK
  have hn : st.Nodup := kp.imp (fun h => by omega)
  intro r
  induction r with
  | nil =>
    intro dn hst B left bs A w p o t sz pl gw us ws Q hB h1 h2 hs hch hag hq
    rw [List.append_nil] at hst
    subst hst
    iterate 4 refine hX ?_
    refine And.intro (fun _ => ?_) (fun h => absurd (Int32.le_refl _) h)
    iterate 2 refine hX ?_
    refine And.intro (fun h => ?_) (fun h => ?_)
    · have h0 : left = 0 := (neq (b := 0) (by omega) (by omega)).mp h
      subst h0
      iterate 2 refine hX ?_
      have hchE : ∀ c ∈ E.flatten, bv (arN c) (bs.getD (kN c) []) := fun c hc => bv_rig hs.1.2 hch (hS.1.2.2.2 c hc) (k2 c hc)
      refine And.intro trivial (cMw [.ref 0] (fun u : List Int32 × List Int32 × List (List (List Nat)) => szI u.1 ∧ slR u.2.2 u.2.1 ∧ ((fitL E bs ∧ A.length < 40 → u.2.2 = A ++ [bs]) ∧ (¬ (fitL E bs ∧ A.length < 40) → u.2.2 = A))) (fun _ => none) (fun u => SeW L S N D C (nI E.length) tt lf rt (nI P.length) bw bf bn w p o t kn sn u.1 pl gw us stn lst u.2.1 (nI st.length) (nI u.2.2.length) kw) (by omega) rfl rfl (fun _ => rfl) (fun _ => rfl) (fun _ => rfl) (fun Q' hQ' => t_keepIfItFits hX (by show 5 ≤ B.1 - 1; simp at hB; omega) hS hs.1.1 hchE hs.2.1.1 hs.2.2 (fun sz ws A' a b c => hQ' (sz, ws, A') ⟨a, b, c⟩)) (fun u hu => ?_))
      refine hX ?_
      refine hq bs u.2.2 w p o t u.1 pl gw us u.2.1 ⟨hs.1, ⟨hu.1, hs.2.1.2⟩, hu.2.1⟩ (fun _ _ => rfl) ?_
      have hg := k4 bs hs.1.2 hch
      have hall : ∀ i, i < P.length → agP E.flatten bs (P.getD i (0, 0)) := fun i hi => hag i hi (k3 i hi).2.1
      have hA := hs.2.2.2.1
      rw [enum, if_pos rfl]
      by_cases hf : fitL E bs
      · rw [List.filter_cons_of_pos (hg.mpr ⟨hf, hall⟩), List.filter_nil]
        by_cases h40 : A.length < 40
        · rw [hu.2.2.1 ⟨hf, h40⟩, List.take_of_length_le (by rw [List.length_append, List.length_singleton]; omega)]
        · rw [hu.2.2.2 (fun h => h40 h.2), take40_full (by omega)]
      · rw [List.filter_cons_of_neg (fun h => hf (hg.mp h).1), List.filter_nil, List.append_nil, hu.2.2.2 (fun h => hf h.1), List.take_of_length_le hA]
    · have h0 : ¬ left = 0 := fun e => h (by rw [e]; rfl)
      refine hX ?_
      refine hq bs A w p o t sz pl gw us ws hs (fun _ _ => rfl) ?_
      rw [enum, if_neg h0, List.filter_nil, List.append_nil, List.take_of_length_le hs.2.2.2.1]
  | cons x r ih =>
    intro dn hst B left bs A w p o t sz pl gw us ws Q hB h1 h2 hs hch hag hq
    rw [List.length_cons] at hB h1
    have hx6 : x < 6 := k6 x (by rw [hst]; simp)
    have hlen : st.length = dn.length + r.length + 1 := by rw [hst, List.length_append, List.length_cons]; omega
    have hgx : st.getD dn.length 0 = x := by
      rw [hst, List.getD_eq_getElem?_getD, List.getElem?_append_right (Nat.le_refl _), Nat.sub_self]; rfl
    have hn2 := hn
    rw [hst, List.nodup_append] at hn2
    obtain ⟨n1, n2, n3⟩ := hn2
    rw [List.nodup_cons] at n2
    have hdx : ∀ y ∈ dn, ¬ x = y := fun y hy e => n3 y hy x List.mem_cons_self e.symm
    iterate 4 refine hX ?_
    refine And.intro (fun h => absurd ((nle (by omega) (by omega)).mp h) (by omega)) (fun _ => ?_)
    iterate 3 refine hX ?_
    refine And.intro (fun _ => ?_) (fun h => absurd ((nlt (b := 6) (by omega) (by omega)).mpr (by omega)) h)
    iterate 4 refine hX ?_
    refine And.intro (vp_in_nI (by omega) (by omega)) ?_
    rw [nI_clamp (by omega), kst dn.length (by omega), hgx]
    iterate 5 refine hX ?_
    refine cP [] [.int (85 + nI x)] [] (some (.int (arI (85 + nI x)))) [.int (arI (85 + nI x))] (by omega) rfl rfl rfl rfl (fun Q' hQ' => t_parts hX hQ') ?_
    rw [arI_85 x hx6]
    iterate 10 refine hX ?_
    rw [nsub (by omega), show nI (st.length - dn.length) - 1 = nI r.length by rw [show st.length - dn.length = r.length + 1 by omega]; exact nI_pred _]
    have hp2 : x % 3 ≤ 2 := by omega
    obtain ⟨-, -, ⟨tb, fs⟩, -⟩ := id hS
    -- the BODIES of a size
    have inner : ∀ (s : Nat), 1 ≤ s → s ≤ left - r.length → ∀ (rs dn2 : List (List Nat)), spF (x % 3) s 1 = dn2 ++ rs → ∀ (bs1 : List (List Nat)) (A1 : List (List (List Nat))) (w p o t sz pl gw : List Int32) (us : Int32) (ws : List Int32), LKs E bs1 A1 w p o t sz pl gw ws → (∀ y, y ∉ x :: r → bs1.getD y [] = bs.getD y []) →
        (∀ (v8 : Value) bs' A' w p o t sz pl gw us ws, LKs E bs' A' w p o t sz pl gw ws → (∀ y, y ∉ x :: r → bs'.getD y [] = bs.getD y []) → A' = (A1 ++ (rs.flatMap fun b => enum r (left - s) (bs.set x b)).filter g).take 40 → v8.category = 1 → X B 69 154 [some (.ref 0), some (.int (nI dn.length)), some (.int (nI left)), some (.int (nI x)), some (.int (nI (x % 3))), some (.int (nI r.length)), some (.int (nI s)), some (.int (nI (BTf (x % 3 * 6 + s)).length)), some v8] [] (SeW L S N D C (nI E.length) tt lf rt (nI P.length) bw bf bn w p o t kn sn sz pl gw us stn lst ws (nI st.length) (nI A'.length) kw) Q) →
        X B 69 96 [some (.ref 0), some (.int (nI dn.length)), some (.int (nI left)), some (.int (nI x)), some (.int (nI (x % 3))), some (.int (nI r.length)), some (.int (nI s)), some (.int (nI (BTf (x % 3 * 6 + s)).length)), some (.int (nI ((BTf (x % 3 * 6 + s - 1)).length + dn2.length)))] [] (SeW L S N D C (nI E.length) tt lf rt (nI P.length) bw bf bn w p o t kn sn sz pl gw us stn lst ws (nI st.length) (nI A1.length) kw) Q := by
      intro s hs1 hs2 rs
      have hle := BTf_le (k := x % 3 * 6 + s) (by omega)
      obtain ⟨-, -, hend⟩ := BTf_row (p := x % 3) (s := s) hp2 (by omega)
      induction rs with
      | nil =>
        intro dn2 hd bs1 A1 w p o t sz pl gw us ws hL hb hq2
        rw [List.append_nil] at hd
        rw [hd] at hend
        iterate 3 refine hX ?_
        refine And.intro (fun _ => ?_) (fun h => absurd (by rw [hend]; exact Int32.le_refl _) h)
        refine hq2 _ bs1 A1 w p o t sz pl gw us ws hL hb ?_ rfl
        rw [List.flatMap_nil, List.filter_nil, List.append_nil, List.take_of_length_le hL.2.2.2.1]
      | cons b rs ih2 =>
        intro dn2 hd bs1 A1 w p o t sz pl gw us ws hL hb hq2
        have hbm : b ∈ spF (x % 3) s 1 := by rw [hd]; simp
        have hbv := spF_bv6 (by omega) hbm
        obtain ⟨hat1, hat2⟩ := BTf_at (p := x % 3) (s := s) hp2 (by omega) hd
        rw [hd, List.length_append, List.length_cons] at hend
        have hA40 := hL.2.2.2.1
        iterate 3 refine hX ?_
        refine And.intro (fun h => absurd ((nle (by omega) (by omega)).mp h) (by omega)) (fun _ => ?_)
        iterate 4 refine hX ?_
        refine And.intro (fun h => ?_) (fun h => ?_)
        · have := (nle (a := 40) (by omega) (by omega)).mp h
          refine hq2 _ bs1 A1 w p o t sz pl gw us ws hL hb ?_ rfl
          rw [take40_full (by omega)]
        · have hlt : A1.length < 40 := Nat.not_le.mp fun q => h ((nle (a := 40) (by omega) (by omega)).mpr q)
          iterate 7 refine hX ?_
          refine And.intro trivial (cP rB [.ref 0, .int (nI ((BTf (x % 3 * 6 + s - 1)).length + dn2.length))] (BdW bw bf bn) (some (.int (bw.getD ((BTf (x % 3 * 6 + s - 1)).length + dn2.length) 0))) [.int (bw.getD ((BTf (x % 3 * 6 + s - 1)).length + dn2.length) 0), .int (nI x), .ref 13] (by omega) rfl rfl rfl rfl (fun Q' hQ' => t_bword hX hat1 tb.1 hQ') ?_)
          rw [tb.2.2 _ (by rw [BTf_18]; exact hat1), hat2]
          refine hX (And.intro trivial (cMs rG [.ref 0, .int (nI x), .int (nI (wC b))] (GrW L S N D C (nI E.length) tt w p o t kn sn sz pl gw us) (fun u : List Int32 × List Int32 × List Int32 × List Int32 => chR (bs1.set x b) u.1 u.2.1 u.2.2.1 u.2.2.2) (fun _ => none) (fun u => GrW L S N D C (nI E.length) tt u.1 u.2.1 u.2.2.1 u.2.2.2 kn sn sz pl gw us) (fun u => SeW L S N D C (nI E.length) tt lf rt (nI P.length) bw bf bn u.1 u.2.1 u.2.2.1 u.2.2.2 kn sn sz pl gw us stn lst ws (nI st.length) (nI A1.length) kw) (by omega) rfl rfl rfl (fun _ => rfl) (fun _ => rfl) (fun _ => rfl) (fun Q' hQ' => t_gtake hX (by show 2 ≤ B.1 - 1; omega) hL.1.1 (by omega) hbv.1 (fun w p o t h => hQ' (w, p, o, t) h)) (fun u hu => ?_)))
          have hl10 := hL.1.1.1.1
          have hset : ∀ y, y ∉ r → (bs1.set x b).getD y [] = (bs.set x b).getD y [] := by
            intro y hy
            have hl10' : bs.length = 10 := hs.1.1.1.1
            by_cases e : x = y
            · subst e
              rw [getD_set_eq (by omega), getD_set_eq (by omega)]
            · rw [getD_set_ne e, getD_set_ne e]
              exact hb y (by simp [hy]; exact fun q => e q.symm)
          have hebase : enum r (left - s) (bs.set x b) = enum r (left - s) (bs1.set x b) := enum_base r _ _ _ (by rw [List.length_set, List.length_set, hl10]; exact hs.1.1.1.1) (fun y hy => (hset y hy).symm)
          have hrig : rig (bs1.set x b) := fun k h6 h10 => by rw [getD_set_ne (by omega)]; exact hL.1.2 k h6 h10
          have hdn1 : ∀ y ∈ dn, bs1.getD y [] = bs.getD y [] := fun y hy => hb y (fun q => by
            rcases List.mem_cons.mp q with e | e
            · exact hdx y hy e.symm
            · exact n3 y hy y (List.mem_cons_of_mem _ e) rfl)
          have hchx : chs (bs1.set x b) (dn ++ [x]) := by
            intro y hy
            rw [List.mem_append, List.mem_singleton] at hy
            rcases hy with hy | rfl
            · rw [getD_set_ne (hdx y hy), hdn1 y hy]
              exact hch y hy
            · rw [getD_set_eq (by omega)]
              exact ⟨hbv, spF_okC s 1 (fun e => by omega) (fun _ => by omega) b hbm⟩
          have hstx : st = (dn ++ [x]) ++ r := by rw [hst]; simp
          have hag1 : ∀ i, i < P.length → fl i ∈ dn → agP E.flatten (bs1.set x b) (P.getD i (0, 0)) := fun i hi hf => (hK.cong hS hst hi hf (fun y hy => by
            rcases hy with hy | hy
            · rw [getD_set_ne (hdx y hy), hdn1 y hy]
            · rw [getD_set_ne (by omega)]
              exact (hb y (fun q => by have := k6 y (by rw [hst]; simp only [List.mem_append]; exact Or.inr q); omega)))).mpr (hag i hi hf)
          have hchp : ∀ i, i < P.length → lst.getD i 0 = nI x → chP E.flatten (bs1.set x b) (P.getD i (0, 0)).1 ∧ chP E.flatten (bs1.set x b) (P.getD i (0, 0)).2 := by
            intro i hi hix
            obtain ⟨a1, a2, -, -⟩ := k3 i hi
            have hfx : fl i = x := by
              rw [a1] at hix
              have := k6 _ a2
              exact (neq (by omega) (by omega)).mp hix
            have hfm : fl i ∈ dn ++ [x] := by rw [hfx]; simp
            exact ⟨fun c hc => bv_rig hrig hchx (hS.1.2.2.2 c (tmL_mem hc)) (hK.dn hS hstx hi hfm (Or.inl hc)), fun c hc => bv_rig hrig hchx (hS.1.2.2.2 c (tmL_mem hc)) (hK.dn hS hstx hi hfm (Or.inr hc))⟩
          have next : ∀ (bs' : List (List Nat)) (A' : List (List (List Nat))) (w p o t sz pl gw : List Int32) (us : Int32) (ws : List Int32), LKs E bs' A' w p o t sz pl gw ws → (∀ y, y ∉ x :: r → bs'.getD y [] = bs.getD y []) → A' = (A1 ++ (enum r (left - s) (bs.set x b)).filter g).take 40 → X B 69 148 [some (.ref 0), some (.int (nI dn.length)), some (.int (nI left)), some (.int (nI x)), some (.int (nI (x % 3))), some (.int (nI r.length)), some (.int (nI s)), some (.int (nI (BTf (x % 3 * 6 + s)).length)), some (.int (nI ((BTf (x % 3 * 6 + s - 1)).length + dn2.length)))] [] (SeW L S N D C (nI E.length) tt lf rt (nI P.length) bw bf bn w p o t kn sn sz pl gw us stn lst ws (nI st.length) (nI A'.length) kw) Q := by
            intro bs' A' w p o t sz pl gw us ws hL' hb' hA'
            iterate 2 refine hX ?_
            rw [show nI ((BTf (x % 3 * 6 + s - 1)).length + dn2.length) + 1 = nI ((BTf (x % 3 * 6 + s - 1)).length + (dn2 ++ [b]).length) by rw [List.length_append, List.length_singleton, ← Nat.add_assoc]; exact (nI_succ _).symm]
            refine ih2 (dn2 ++ [b]) (by rw [hd]; simp) bs' A' w p o t sz pl gw us ws hL' hb' (fun v8 bs2 A2 w p o t sz pl gw us ws a b2 c d => hq2 v8 bs2 A2 w p o t sz pl gw us ws a b2 ?_ d)
            rw [c, hA', take40, List.flatMap_cons, List.filter_append]
          iterate 3 refine hX ?_
          refine And.intro trivial (cMw [.ref 0, .int (nI x)] (fun v : (List Int32 × List Int32 × List Int32 × Int32) × Bool => szI v.1.1 ∧ v.1.2.1.length = 40 ∧ v.1.2.2.1.length = 8000 ∧ (v.2 = true ↔ ∀ j, j < P.length → lst.getD j 0 = nI x → agP E.flatten (bs1.set x b) (P.getD j (0, 0)))) (fun v => some (.int (if v.2 then 1 else 0))) (fun v => SeW L S N D C (nI E.length) tt lf rt (nI P.length) bw bf bn u.1 u.2.1 u.2.2.1 u.2.2.2 kn sn v.1.1 v.1.2.1 v.1.2.2.1 v.1.2.2.2 stn lst ws (nI st.length) (nI A1.length) kw) (by omega) rfl rfl (fun _ => rfl) (fun _ => rfl) (fun _ => rfl) (fun Q' hQ' => t_pairsAgree hX (by show 5 ≤ B.1 - 1; omega) hS hu kl hchp hL.2.1.1 hL.2.1.2.1 hL.2.1.2.2 (fun sz pl gw us a b c => ⟨fun h => hQ' ((sz, pl, gw, us), true) ⟨a, b, c, fun _ => h, fun _ => rfl⟩, fun h => hQ' ((sz, pl, gw, us), false) ⟨a, b, c, fun q => (Bool.noConfusion q), fun q => absurd q h⟩⟩)) (fun v hv => ?_))
          obtain ⟨⟨sz2, pl2, gw2, us2⟩, ok⟩ := v
          obtain ⟨v1, v2, v3, v4⟩ := hv
          dsimp only at v1 v2 v3 v4 ⊢
          cases ok with
          | false =>
            refine hX (And.intro (fun _ => ?_) (fun h => absurd rfl h))
            refine next (bs1.set x b) A1 u.1 u.2.1 u.2.2.1 u.2.2.2 sz2 pl2 gw2 us2 ws ⟨⟨hu, hrig⟩, ⟨v1, v2, v3⟩, hL.2.2⟩ (fun y hy => by
              rw [hset y (fun q => hy (List.mem_cons_of_mem _ q)), getD_set_ne (fun q => hy (by rw [q]; exact List.mem_cons_self))]) ?_
            rw [hebase, hK.cut hS hst (by rw [List.length_set]; exact hl10) hrig hchx (by omega) (by omega) (fun h => by have := v4.mpr h; cases this), List.append_nil, List.take_of_length_le hA40]
          | true =>
            have hagx := v4.mp rfl
            refine hX (And.intro (fun h => absurd h (show ¬ ((1 : Int32) = 0) by decide)) (fun _ => ?_))
            iterate 8 refine hX ?_
            rw [show nI dn.length + 1 = nI (dn ++ [x]).length by rw [List.length_append, List.length_singleton]; exact (nI_succ _).symm, nsub (by omega)]
            refine And.intro trivial (cMw [.ref 0, .int (nI (dn ++ [x]).length), .int (nI (left - s))] (fun v : List (List Nat) × List (List (List Nat)) × List Int32 × List Int32 × List Int32 × List Int32 × List Int32 × List Int32 × List Int32 × Int32 × List Int32 => LKs E v.1 v.2.1 v.2.2.1 v.2.2.2.1 v.2.2.2.2.1 v.2.2.2.2.2.1 v.2.2.2.2.2.2.1 v.2.2.2.2.2.2.2.1 v.2.2.2.2.2.2.2.2.1 v.2.2.2.2.2.2.2.2.2.2 ∧ (∀ y, y ∉ r → v.1.getD y [] = (bs1.set x b).getD y []) ∧ v.2.1 = (A1 ++ (enum r (left - s) (bs1.set x b)).filter g).take 40) (fun _ => none) (fun v => SeW L S N D C (nI E.length) tt lf rt (nI P.length) bw bf bn v.2.2.1 v.2.2.2.1 v.2.2.2.2.1 v.2.2.2.2.2.1 kn sn v.2.2.2.2.2.2.1 v.2.2.2.2.2.2.2.1 v.2.2.2.2.2.2.2.2.1 v.2.2.2.2.2.2.2.2.2.1 stn lst v.2.2.2.2.2.2.2.2.2.2 (nI st.length) (nI v.2.1.length) kw) (by omega) rfl rfl (fun _ => rfl) (fun _ => rfl) (fun _ => rfl) (fun Q' hQ' => ih (dn ++ [x]) hstx (B.1 - 1, 0, 0) (left - s) (bs1.set x b) A1 u.1 u.2.1 u.2.2.1 u.2.2.2 sz2 pl2 gw2 us2 ws Q' (by show 6 + r.length ≤ B.1 - 1; omega) (by omega) (by omega) ⟨⟨hu, hrig⟩, ⟨v1, v2, v3⟩, hL.2.2⟩ hchx (fun i hi hf => by
                rw [List.mem_append, List.mem_singleton] at hf
                rcases hf with hf | hf
                · exact hag1 i hi hf
                · exact hagx i hi (by rw [(k3 i hi).1, hf])) (fun bs' A' w p o t sz pl gw us ws a b c => hQ' (bs', A', w, p, o, t, sz, pl, gw, us, ws) ⟨a, b, c⟩)) (fun v hv => ?_))
            obtain ⟨bs3, A3, w3, p3, o3, t3, sz3, pl3, gw3, us3, ws3⟩ := v
            obtain ⟨u1, u2, u3⟩ := hv
            dsimp only at u1 u2 u3
            refine next bs3 A3 w3 p3 o3 t3 sz3 pl3 gw3 us3 ws3 u1 (fun y hy => by
              rw [u2 y (fun q => hy (List.mem_cons_of_mem _ q)), getD_set_ne (fun q => hy (by rw [q]; exact List.mem_cons_self))]
              exact hb y hy) (by rw [hebase]; exact u3)
    -- the sizes
    have outer : ∀ (n s : Nat), s + n = left - r.length + 1 → 1 ≤ s → ∀ (v7 v8 : Option Value) (bs1 : List (List Nat)) (A1 : List (List (List Nat))) (w p o t sz pl gw : List Int32) (us : Int32) (ws : List Int32), (v7 = none ∨ ∃ v, v7 = some v ∧ v.category = 1) → (v8 = none ∨ ∃ v, v8 = some v ∧ v.category = 1) → LKs E bs1 A1 w p o t sz pl gw ws → (∀ y, y ∉ x :: r → bs1.getD y [] = bs.getD y []) →
        (∀ bs' A' w p o t sz pl gw us ws, LKs E bs' A' w p o t sz pl gw ws → (∀ y, y ∉ x :: r → bs'.getD y [] = bs.getD y []) → A' = (A1 ++ ((List.range' s n).flatMap fun s => (spF (x % 3) s 1).flatMap fun b => enum r (left - s) (bs.set x b)).filter g).take 40 → Q none (SeW L S N D C (nI E.length) tt lf rt (nI P.length) bw bf bn w p o t kn sn sz pl gw us stn lst ws (nI st.length) (nI A'.length) kw)) →
        X B 69 61 [some (.ref 0), some (.int (nI dn.length)), some (.int (nI left)), some (.int (nI x)), some (.int (nI (x % 3))), some (.int (nI r.length)), some (.int (nI s)), v7, v8] [] (SeW L S N D C (nI E.length) tt lf rt (nI P.length) bw bf bn w p o t kn sn sz pl gw us stn lst ws (nI st.length) (nI A1.length) kw) Q := by
      intro n
      induction n with
      | zero =>
        intro s hs0 hs1 v7 v8 bs1 A1 w p o t sz pl gw us ws _ _ hL hb hq2
        iterate 5 refine hX ?_
        rw [nsub (by omega)]
        refine And.intro (fun _ => ?_) (fun h => absurd ((nlt (by omega) (by omega)).mpr (by omega)) h)
        refine hX ?_
        exact hq2 bs1 A1 w p o t sz pl gw us ws hL hb (by rw [List.range'_zero, List.flatMap_nil, List.filter_nil, List.append_nil, List.take_of_length_le hL.2.2.2.1])
      | succ n ihn =>
        intro s hs0 hs1 v7 v8 bs1 A1 w p o t sz pl gw us ws hv7 hv8 hL hb hq2
        have hfk : ∀ k, k < 19 → bf.getD k 0 = nI (BTf k).length := fs.2
        have hf19 : bf.length = 19 := fs.1
        iterate 5 refine hX ?_
        rw [nsub (by omega)]
        refine And.intro (fun h => absurd ((nlt (by omega) (by omega)).mp h) (by omega)) (fun _ => ?_)
        iterate 5 refine hX ?_
        refine And.intro trivial (cP rB [.ref 0, .int (nI (x % 3)), .int (nI s)] (BdW bw bf bn) (some (.int (bf.getD (x % 3 * 6 + s) 0))) [.int (bf.getD (x % 3 * 6 + s) 0)] (by omega) rfl rfl rfl rfl (fun Q' hQ' => t_end hX (by show 1 ≤ B.1 - 1; omega) hp2 (by omega) hf19 hQ') ?_)
        rw [hfk _ (by omega)]
        have step : X B 69 83 [some (.ref 0), some (.int (nI dn.length)), some (.int (nI left)), some (.int (nI x)), some (.int (nI (x % 3))), some (.int (nI r.length)), some (.int (nI s)), some (.int (nI (BTf (x % 3 * 6 + s)).length)), v8] [] (SeW L S N D C (nI E.length) tt lf rt (nI P.length) bw bf bn w p o t kn sn sz pl gw us stn lst ws (nI st.length) (nI A1.length) kw) Q := by
          iterate 5 refine hX ?_
          refine And.intro trivial (cP rB [.ref 0, .int (nI (x % 3)), .int (nI s)] (BdW bw bf bn) (some (.int (bf.getD (x % 3 * 6 + s - 1) 0))) [.int (bf.getD (x % 3 * 6 + s - 1) 0)] (by omega) rfl rfl rfl rfl (fun Q' hQ' => t_first hX (by show 1 ≤ B.1 - 1; omega) hp2 (by omega) hf19 hQ') ?_)
          rw [hfk _ (by omega)]
          refine hX ?_
          refine inner s hs1 (by omega) (spF (x % 3) s 1) [] rfl bs1 A1 w p o t sz pl gw us ws hL hb (fun v8 bs2 A2 w p o t sz pl gw us ws a b c d => ?_)
          iterate 2 refine hX ?_
          rw [show nI s + 1 = nI (s + 1) from (nI_succ s).symm]
          refine ihn (s + 1) (by omega) (by omega) _ _ bs2 A2 w p o t sz pl gw us ws (Or.inr ⟨_, rfl, rfl⟩) (Or.inr ⟨_, rfl, d⟩) a b (fun bs3 A3 w p o t sz pl gw us ws a2 b2 c2 => hq2 bs3 A3 w p o t sz pl gw us ws a2 b2 ?_)
          rw [c2, c, take40, List.range'_succ, List.flatMap_cons, List.filter_append]
        exact hX step
    refine And.intro (fun h => ?_) (fun h => ?_)
    · have h0 : r.length = 0 := (neq (b := 0) (by omega) (by omega)).mp h
      iterate 3 refine hX ?_
      refine outer (left - r.length + 1 - left) left (by omega) (by omega) none none bs A w p o t sz pl gw us ws (Or.inl rfl) (Or.inl rfl) hs (fun _ _ => rfl) (fun bs' A' w p o t sz pl gw us ws a b c => hq bs' A' w p o t sz pl gw us ws a b ?_)
      rw [enum, if_pos h0]
      exact c
    · have h0 : ¬ r.length = 0 := fun e => h (by rw [e]; rfl)
      iterate 2 refine hX ?_
      refine outer (left - r.length + 1 - 1) 1 (by omega) (by omega) none none bs A w p o t sz pl gw us ws (Or.inl rfl) (Or.inl rfl) hs (fun _ _ => rfl) (fun bs' A' w p o t sz pl gw us ws a b c => hq bs' A' w p o t sz pl gw us ws a b ?_)
      rw [enum, if_neg h0]
      exact c
end LK
