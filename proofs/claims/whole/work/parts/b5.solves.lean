/-! The model: all choices. -/
theorem BTf_pre : ∀ (j k : Nat), ∃ R, BTf (k + j) = BTf k ++ R
  | 0, k => ⟨[], by rw [List.append_nil]; rfl⟩
  | j + 1, k => by
    obtain ⟨R, h⟩ := BTf_pre j k
    refine ⟨R ++ spF ((k + j) / 6) ((k + j) % 6 + 1) 1, ?_⟩
    rw [← Nat.add_assoc, BTf_succ, h, List.append_assoc]
theorem slice_run {P l0 : Nat} : ∀ (n : Nat), l0 + n ≤ 6 → BTf (6 * P + (l0 + n)) = BTf (6 * P + l0) ++ (List.range' (l0 + 1) n).flatMap fun s => spF P s 1
  | 0, _ => by rw [List.range'_zero, List.flatMap_nil, List.append_nil]; rfl
  | n + 1, h => by
    rw [← Nat.add_assoc, ← Nat.add_assoc, BTf_succ, Nat.add_assoc (6 * P), slice_run n (by omega), show (6 * P + (l0 + n)) / 6 = P by omega, show (6 * P + (l0 + n)) % 6 + 1 = l0 + n + 1 by omega, List.range'_1_concat, List.flatMap_append, List.append_assoc, show l0 + 1 + n = l0 + n + 1 by omega]
    simp
/-- the BODIES of a kind from one SIZE to another, as they stand in the table -/
theorem slice_eq {P l0 n : Nat} (hP : P ≤ 2) (h : l0 + n ≤ 6) : ((BTf 18).take (sS P (l0 + n))).drop (sS P l0) = (List.range' (l0 + 1) n).flatMap fun s => spF P s 1 := by
  obtain ⟨R, hR⟩ := BTf_pre (18 - (6 * P + (l0 + n))) (6 * P + (l0 + n))
  rw [show 6 * P + (l0 + n) + (18 - (6 * P + (l0 + n))) = 18 by omega] at hR
  rw [hR, show sS P (l0 + n) = (BTf (6 * P + (l0 + n))).length from rfl, List.take_left, slice_run n h, show sS P l0 = (BTf (6 * P + l0)).length from rfl, List.drop_left]
theorem sS_mono {P a b : Nat} (h : a ≤ b) : sS P a ≤ sS P b := by
  obtain ⟨R, hR⟩ := BTf_pre (b - a) (6 * P + a)
  rw [show 6 * P + a + (b - a) = 6 * P + b by omega] at hR
  rw [sS, sS, hR, List.length_append]
  omega
theorem flatMap_congr' {α β : Type} {l : List α} {f g : α → List β} (h : ∀ a ∈ l, f a = g a) : l.flatMap f = l.flatMap g := by
  rw [List.flatMap_def, List.flatMap_def, List.map_congr_left h]
/-- the candidates for a letter -/
def cds (x : Nat) (r : List Nat) (left c : Nat) : List (List Nat) := ((BTf 18).take (sS (x % 3) (left - r.length))).drop (cnx (r.length = 0) c (sS (x % 3) (left - r.length - 1)))
def cen (x : Nat) (r : List Nat) (left : Nat) (bs : List (List Nat)) (b : List Nat) : List (List (List Nat)) := enum r (left - b.length) (bs.set x b)
theorem cds_range {x : Nat} {r : List Nat} {left : Nat} (h1 : r.length + 1 ≤ left) (h2 : left ≤ 6) : cds x r left (sS (x % 3) 0) = (List.range' (if r.length = 0 then left else 1) (left - r.length + 1 - (if r.length = 0 then left else 1))).flatMap fun s => spF (x % 3) s 1 := by
  have hx : x % 3 ≤ 2 := by omega
  rw [cds, cnx]
  by_cases h0 : r.length = 0
  · rw [if_pos h0, if_pos h0, h0, Nat.sub_zero, Nat.max_eq_right (sS_mono (by omega)), show left + 1 - left = 1 by omega]
    have := slice_eq (P := x % 3) (l0 := left - 1) (n := 1) hx (by omega)
    rw [show left - 1 + 1 = left by omega] at this
    exact this
  · rw [if_neg h0, if_neg h0, Nat.add_sub_cancel]
    have := slice_eq (P := x % 3) (l0 := 0) (n := left - r.length) hx (by omega)
    rw [Nat.zero_add] at this
    exact this
theorem cds_ok {x : Nat} {r : List Nat} {left : Nat} (h1 : r.length + 1 ≤ left) (h2 : left ≤ 6) : ∀ b ∈ cds x r left (sS (x % 3) 0), bOk b ∧ b.length ≤ left - r.length ∧ (r = [] → b.length = left) := by
  intro b hb
  rw [cds_range h1 h2, List.mem_flatMap] at hb
  obtain ⟨s, hs, hb⟩ := hb
  obtain ⟨l1, l2⟩ := spF_ok s 1 b hb
  rw [List.mem_range'_1] at hs
  by_cases h0 : r.length = 0
  · rw [if_pos h0] at hs
    exact ⟨⟨by omega, l2⟩, by omega, fun _ => by omega⟩
  · rw [if_neg h0] at hs
    exact ⟨⟨by omega, l2⟩, by omega, fun q => by rw [q] at h0; exact absurd rfl h0⟩
theorem enum_cds {x : Nat} {r : List Nat} {left : Nat} {bs : List (List Nat)} (h1 : r.length + 1 ≤ left) (h2 : left ≤ 6) : enum (x :: r) left bs = (cds x r left (sS (x % 3) 0)).flatMap (cen x r left bs) := by
  rw [cds_range h1 h2, enum, List.flatMap_assoc]
  refine flatMap_congr' (fun s hs => flatMap_congr' (fun b hb => ?_))
  rw [cen, (spF_ok s 1 b hb).1]
theorem cnx_congr {p q : Prop} [Decidable p] [Decidable q] (h : p ↔ q) (c lo : Nat) : cnx p c lo = cnx q c lo := by
  rw [cnx, cnx]
  by_cases hp : p
  · rw [if_pos hp, if_pos (h.mp hp)]
  · rw [if_neg hp, if_neg (fun z => hp (h.mpr z))]
theorem cds_nil {x : Nat} {r : List Nat} {left c : Nat} (hl : left ≤ 6) (h : cds x r left c = []) : sS (x % 3) (left - r.length) ≤ cnx (r.length = 0) c (sS (x % 3) (left - r.length - 1)) := by
  have hle := sS_le (P := x % 3) (k := left - r.length) (by omega) (by omega)
  have := congrArg List.length h
  rw [cds, List.length_drop, List.length_take, BTf_18, List.length_nil] at this
  omega
theorem cds_cons {x : Nat} {r : List Nat} {left c : Nat} {b : List Nat} {W : List (List Nat)} (hl : left ≤ 6) (h : cds x r left c = b :: W) : cnx (r.length = 0) c (sS (x % 3) (left - r.length - 1)) < sS (x % 3) (left - r.length) ∧ (BTf 18).getD (cnx (r.length = 0) c (sS (x % 3) (left - r.length - 1))) [] = b ∧ cds x r left (cnx (r.length = 0) c (sS (x % 3) (left - r.length - 1)) + 1) = W := by
  have hle := sS_le (P := x % 3) (k := left - r.length) (by omega) (by omega)
  have hl2 := congrArg List.length h
  rw [cds, List.length_drop, List.length_take, BTf_18, List.length_cons] at hl2
  have h3 : cnx (r.length = 0) (cnx (r.length = 0) c (sS (x % 3) (left - r.length - 1)) + 1) (sS (x % 3) (left - r.length - 1)) = cnx (r.length = 0) c (sS (x % 3) (left - r.length - 1)) + 1 := by
    rw [cnx, cnx]
    split
    · omega
    · rfl
  refine ⟨by omega, ?_, ?_⟩
  · have := congrArg (fun l => l.getD 0 []) h
    rw [cds, List.getD_eq_getElem?_getD, List.getElem?_drop, Nat.add_zero, List.getElem?_take_of_lt (by omega)] at this
    rw [List.getD_eq_getElem?_getD]
    exact this
  · rw [cds, h3, ← List.drop_drop]
    rw [cds] at h
    rw [h]
    rfl
/-- a CHOICE in the model's row, but for letters still to choose -/
def chX (rem : List Nat) (bs : List (List Nat)) (ch : List Int32) : Prop := ch.length = 6 ∧ ∀ y, y < 6 → y ∉ rem → bOk (bs.getD y []) ∧ ch.getD y 0 = nI (wB (bs.getD y []))
theorem chX_set {x : Nat} {r : List Nat} {bs : List (List Nat)} {ch : List Int32} (h : chX (x :: r) bs ch) (hl : bs.length = 10) (hx : x < 6) {b : List Nat} (hb : bOk b) : chX r (bs.set x b) (ch.set x (nI (wB b))) := by
  refine ⟨by rw [List.length_set]; exact h.1, fun y hy hyr => ?_⟩
  by_cases e : x = y
  · subst e
    rw [getD_set_eq (by omega), getD_set_eq (by rw [h.1]; exact hy)]
    exact ⟨hb, rfl⟩
  · rw [getD_set_ne e, getD_set_ne e]
    exact h.2 y hy (fun q => by rcases List.mem_cons.mp q with rfl | q; exact e rfl; exact hyr q)
theorem chX_back {x : Nat} {r : List Nat} {bs : List (List Nat)} {ch : List Int32} {b : List Nat} (h : chX r (bs.set x b) ch) : chX (x :: r) bs ch := by
  refine ⟨h.1, fun y hy hyr => ?_⟩
  rw [List.mem_cons, not_or] at hyr
  have := h.2 y hy hyr.2
  rw [getD_set_ne (fun q => hyr.1 q.symm)] at this
  exact this
theorem chX_low {rem stl : List Nat} {bs : List (List Nat)} {ch : List Int32} (h1 : ∀ y ∈ rem, y ∈ stl) (h2 : ∀ y, y < 6 → y ∉ stl → bs.getD y [] = []) (h : chX rem bs ch) : chX stl bs0 ch := by
  refine ⟨h.1, fun y hy hys => ?_⟩
  have e0 : bs0.getD y [] = [] := by
    have : ∀ y, y < 6 → bs0.getD y [] = [] := by decide
    exact this y hy
  have := h.2 y hy (fun q => hys (h1 y q))
  rw [h2 y hy hys] at this
  rw [e0]
  exact this
/-- what a whole CHOICE must be -/
def goodC (E : List (List Int32)) (s0 : Nat) (bs : List (List Nat)) : Prop := szB bs 6 = s0 ∧ rig bs ∧ ∀ c ∈ E.flatten, bv (arN c) (bs.getD (kN c) [])
section MO
variable {sc : List Int32} {X : pX} {B : pB} {Q : pQ} {nw fr pa rf tx bo ss op wr f1 f2 ch sd pk sv sz hpz pl sg bu : List Int32} {st ln ai fi dp wm pm sm vm wt : Int32} {hsh : Int64}
theorem m_level (hX : Cl sc X) (hB : 10 ≤ B.1) {E : List (List Int32)} (hg : gE E) {stl : List Nat} (hst : sdR stl sd) (h6 : stl.length ≤ 6) (hnd : stl.Nodup) (hlt : ∀ y ∈ stl, y < 6) (hss : ssR 21 ss) (hbo : tbB (BTf 18) bo) {s0 : Nat} {R : List (List (List Nat))}
    (hq : ∀ ch pk sv sz hpz pl sg bu wt, chX stl bs0 ch → pk.length = 6 → scS hpz pl sg bu → slB R sv sz → Q none (MW (rowE E) fr pa st rf tx ln bo ss ai fi op dp wr wm f1 f2 pm ch sd (nI stl.length) pk sv sz (nI R.length) hpz pl sg wt bu hsh)) :
    ∀ (r : List Nat) (x : Nat) (dn : List Nat), stl = dn ++ x :: r → ∀ (left : Nat), r.length + 1 ≤ left → left ≤ 6 → ∀ (bs : List (List Nat)), bs.length = 10 → (∀ y, y < 6 → y ∉ stl → bs.getD y [] = []) → ∀ (Pn : List (List (List Nat))) (pk0 : List Int32),
      (∀ A ch pk sv sz hpz pl sg bu wt, chX (x :: r) bs ch → pk.length = 6 → (∀ i, i < dn.length → pk.getD i 0 = pk0.getD i 0) → scS hpz pl sg bu → slB A sv sz → R = (A ++ Pn.filter (slv · E)).take 40 → X B 176 59 [some (.ref 0), some (.int (nI s0)), some (.int (nI dn.length)), some (.int (nI left))] [] (MW (rowE E) fr pa st rf tx ln bo ss ai fi op dp wr wm f1 f2 pm ch sd (nI stl.length) pk sv sz (nI A.length) hpz pl sg wt bu hsh) Q) →
      ∀ (W : List (List Nat)) (c : Nat) (A : List (List (List Nat))) (ch pk sv sz hpz pl sg bu : List Int32) (wt : Int32), c ≤ 1822 → cds x r left c = W → (∀ b ∈ W, bOk b ∧ b.length ≤ left - r.length ∧ (r = [] → b.length = left)) → chX (x :: r) bs ch → pk.length = 6 → pk.getD dn.length 0 = nI c - 1 → (∀ i, i < dn.length → pk.getD i 0 = pk0.getD i 0) → scS hpz pl sg bu → slB A sv sz → (∀ bs2 ∈ W.flatMap (cen x r left bs), goodC E s0 bs2) → R = (A ++ (W.flatMap (cen x r left bs) ++ Pn).filter (slv · E)).take 40 →
        X B 176 28 [some (.ref 0), some (.int (nI s0)), some (.int (nI dn.length)), some (.int (nI left))] [] (MW (rowE E) fr pa st rf tx ln bo ss ai fi op dp wr wm f1 f2 pm ch sd (nI stl.length) pk sv sz (nI A.length) hpz pl sg wt bu hsh) Q := by
  have hsd := hst.1
  intro r
  induction r with
  | nil =>
    intro x dn hs left hl1 hl6 bs hbl hbz Pn pk0 hk W
    have hlen : stl.length = dn.length + 1 := by rw [hs, List.length_append]; rfl
    have hxj : stl.getD dn.length 0 = x := by rw [hs, ins_get, if_neg (by omega), if_pos rfl]
    have hx6 : x < 6 := hlt x (by rw [hs]; simp)
    induction W with
    | nil =>
      intro c A ch pk sv sz hpz pl sg bu wt hc hW hWo hch hpk hpc hpi hsc hA hgd hR
      have h40 := hA.1.2.2
      have hj := hst.2 dn.length (by omega)
      rw [hxj] at hj
      iterate 2 refine hX ?_
      refine And.intro (fun h => absurd h (nneg (by omega))) (fun _ => ?_)
      iterate 4 refine hX ?_
      by_cases hfull : A.length = 40
      · refine And.intro (fun _ => ?_) (fun h => absurd ((nle (a := 40) (by omega) (by omega)).mpr (by omega)) h)
        refine hX ?_
        rw [take40_full hfull] at hR
        subst hR
        exact hq ch pk sv sz hpz pl sg bu wt (chX_low (fun y hy => by rw [hs]; exact List.mem_append_right _ hy) hbz hch) hpk hsc hA
      refine And.intro (fun h => absurd ((nle (a := 40) (by omega) (by omega)).mp h) (by omega)) (fun _ => ?_)
      iterate 11 refine hX ?_
      rw [show nI left - (nI stl.length - 1 - nI dn.length) = nI left by
        rw [show nI stl.length - 1 = nI (stl.length - 1) from nsub (b := 1) (by omega), nsub (by omega), nsub (by omega)]; congr 1; omega]
      have hno : sS (x % 3) left ≤ cnx (([] : List Nat).length = 0) c (sS (x % 3) (left - 1)) := cds_nil hl6 hW
      have hcn : cnx (dn.length = stl.length - 1) c (sS (stl.getD dn.length 0 % 3) (left - 1)) = cnx (([] : List Nat).length = 0) c (sS (x % 3) (left - 1)) := by rw [hxj]; exact cnx_congr (by rw [List.length_nil]; omega) _ _
      refine And.intro trivial (cMw [.ref 0, .int (nI dn.length), .int (nI left)] (fun u : List Int32 => u.length = 6 ∧ ∀ i, i < dn.length → u.getD i 0 = pk0.getD i 0) (fun _ => some (.int 0)) (fun u => (MW (rowE E) fr pa st rf tx ln bo ss ai fi op dp wr wm f1 f2 pm ch sd (nI stl.length) u sv sz (nI A.length) hpz pl sg wt bu hsh)) (by omega) rfl rfl (fun _ => rfl) (fun _ => rfl) (fun _ => rfl) (fun Q' hQ' => m_picksNext hX hst h6 (by omega) (by rw [hxj]; exact hx6) ⟨by simpa using hl1, hl6⟩ hc hpk hch.1 hpc hss hbo (fun _ => hQ' _ ⟨by rw [List.length_set]; exact hpk, fun i hi => by rw [getD_set_ne (by omega)]; exact hpi i hi⟩) (fun h => by rw [hcn, hxj] at h; omega)) (fun u hu => ?_))
      refine hX (And.intro (fun _ => ?_) (fun h => absurd rfl h))
      exact hk A ch u sv sz hpz pl sg bu wt hch hu.1 hu.2 hsc hA hR
    | cons b W ihW =>
      intro c A ch pk sv sz hpz pl sg bu wt hc hW hWo hch hpk hpc hpi hsc hA hgd hR
      have h40 := hA.1.2.2
      obtain ⟨hb, hb1, hb2⟩ := hWo b List.mem_cons_self
      have hbl2 := hb2 rfl
      iterate 2 refine hX ?_
      refine And.intro (fun h => absurd h (nneg (by omega))) (fun _ => ?_)
      iterate 4 refine hX ?_
      by_cases hfull : A.length = 40
      · refine And.intro (fun _ => ?_) (fun h => absurd ((nle (a := 40) (by omega) (by omega)).mpr (by omega)) h)
        refine hX ?_
        rw [take40_full hfull] at hR
        subst hR
        exact hq ch pk sv sz hpz pl sg bu wt (chX_low (fun y hy => by rw [hs]; exact List.mem_append_right _ hy) hbz hch) hpk hsc hA
      refine And.intro (fun h => absurd ((nle (a := 40) (by omega) (by omega)).mp h) (by omega)) (fun _ => ?_)
      iterate 11 refine hX ?_
      rw [show nI left - (nI stl.length - 1 - nI dn.length) = nI left by
        rw [show nI stl.length - 1 = nI (stl.length - 1) from nsub (b := 1) (by omega), nsub (by omega), nsub (by omega)]; congr 1; omega]
      obtain ⟨hy1, hy2, hy3⟩ : cnx (([] : List Nat).length = 0) c (sS (x % 3) (left - 1)) < sS (x % 3) left ∧ (BTf 18).getD (cnx (([] : List Nat).length = 0) c (sS (x % 3) (left - 1))) [] = b ∧ cds x [] left (cnx (([] : List Nat).length = 0) c (sS (x % 3) (left - 1)) + 1) = W := cds_cons hl6 hW
      have hcn : cnx (dn.length = stl.length - 1) c (sS (stl.getD dn.length 0 % 3) (left - 1)) = cnx (([] : List Nat).length = 0) c (sS (x % 3) (left - 1)) := by rw [hxj]; exact cnx_congr (by rw [List.length_nil]; omega) _ _
      have hc18 := sS_le (P := x % 3) (k := left) (by omega) hl6
      generalize hcc : cnx (([] : List Nat).length = 0) c (sS (x % 3) (left - 1)) = c' at hy1 hy2 hy3 hcn
      refine And.intro trivial (cMw [.ref 0, .int (nI dn.length), .int (nI left)] (fun u : List Int32 × List Int32 => u.1 = pk.set dn.length (nI c') ∧ u.2 = ch.set x (nI (wB b))) (fun _ => some (.int 1)) (fun u => (MW (rowE E) fr pa st rf tx ln bo ss ai fi op dp wr wm f1 f2 pm u.2 sd (nI stl.length) u.1 sv sz (nI A.length) hpz pl sg wt bu hsh)) (by omega) rfl rfl (fun _ => rfl) (fun _ => rfl) (fun _ => rfl) (fun Q' hQ' => m_picksNext hX hst h6 (by omega) (by rw [hxj]; exact hx6) ⟨by simpa using hl1, hl6⟩ hc hpk hch.1 hpc hss hbo (fun h => by rw [hcn, hxj] at h; omega) (fun _ => hQ' (_, _) ⟨by rw [hcn], by rw [hcn, hxj, hy2]⟩)) ?_)
      rintro ⟨pk1, ch1⟩ ⟨rfl, rfl⟩
      dsimp only
      refine hX (And.intro (fun h => absurd h (by decide)) (fun _ => ?_))
      iterate 6 refine hX ?_
      rw [show nI stl.length - 1 = nI dn.length by rw [hlen]; exact nI_pred _]
      refine And.intro (fun _ => ?_) (fun h => absurd rfl h)
      iterate 3 refine hX ?_
      have hch1 := chX_set hch hbl hx6 hb
      have hcb : chB (bs.set x b) (ch.set x (nI (wB b))) := ⟨hch1.1, fun y hy => hch1.2 y hy (by simp)⟩
      have hcen : cen x [] left bs b = [bs.set x b] := by rw [cen, enum, if_pos (by omega)]
      rw [List.flatMap_cons, hcen] at hgd hR
      obtain ⟨g1, g2, g3⟩ := hgd (bs.set x b) (by simp)
      refine And.intro trivial (cMw [.ref 0, .int (nI s0)] (fun w : List Int32 × List Int32 × List Int32 × List Int32 × List Int32 × List Int32 × Int32 => scS w.2.2.1 w.2.2.2.1 w.2.2.2.2.1 w.2.2.2.2.2.1 ∧ slB ((A ++ [bs.set x b].filter (slv · E)).take 40) w.1 w.2.1) (fun _ => none) (fun w => (MW (rowE E) fr pa st rf tx ln bo ss ai fi op dp wr wm f1 f2 pm (ch.set x (nI (wB b))) sd (nI stl.length) (pk.set dn.length (nI c')) w.1 w.2.1 (nI ((A ++ [bs.set x b].filter (slv · E)).take 40).length) w.2.2.1 w.2.2.2.1 w.2.2.2.2.1 w.2.2.2.2.2.2 w.2.2.2.2.2.1 hsh)) (by omega) rfl rfl (fun _ => rfl) (fun _ => rfl) (fun _ => rfl) (fun Q' hQ' => m_meets hX (by show 9 ≤ B.1 - 1; omega) hg hcb g2 g3 hsc hA g1.symm (fun a b c d e f g h i => hQ' (a, b, c, d, e, f, g) ⟨h, i⟩)) ?_)
      rintro ⟨sv1, sz1, hp1, pl1, sg1, bu1, wt1⟩ ⟨w1, w2⟩
      dsimp only at w1 w2 ⊢
      refine hX ?_
      refine ihW (c' + 1) _ (ch.set x (nI (wB b))) (pk.set dn.length (nI c')) sv1 sz1 hp1 pl1 sg1 bu1 wt1 (by omega) hy3 (fun d hd => hWo d (List.mem_cons_of_mem _ hd)) (chX_back hch1) (by rw [List.length_set]; exact hpk) (by rw [getD_set_eq (by omega)]; exact (nI_pred _).symm) (fun i hi => by rw [getD_set_ne (by omega)]; exact hpi i hi) w1 w2 (fun bs2 h2 => hgd bs2 (List.mem_append_right _ h2)) ?_
      rw [hR, take40, List.append_assoc, List.filter_append]
  | cons x2 r2 ih =>
    intro x dn hs left hl1 hl6 bs hbl hbz Pn pk0 hk W
    rw [List.length_cons] at hl1
    have hlen : stl.length = dn.length + 1 + (r2.length + 1) := by rw [hs, List.length_append, List.length_cons, List.length_cons]; omega
    have hxj : stl.getD dn.length 0 = x := by rw [hs, ins_get, if_neg (by omega), if_pos rfl]
    have hx2j : stl.getD (dn.length + 1) 0 = x2 := by
      have e : stl = (dn ++ [x]) ++ x2 :: r2 := by rw [hs, List.append_assoc]; rfl
      rw [e, show dn.length + 1 = (dn ++ [x]).length by rw [List.length_append]; rfl, ins_get, if_neg (by omega), if_pos rfl]
    have hx6 : x < 6 := hlt x (by rw [hs]; simp)
    have hx26 : x2 < 6 := hlt x2 (by rw [hs]; simp)
    have hxr : x ∉ x2 :: r2 := by
      rw [hs] at hnd
      exact (List.nodup_cons.mp (List.nodup_append.mp hnd).2.1).1
    have hj0 := hst.2 dn.length (by omega)
    rw [hxj] at hj0
    have hj1 := hst.2 (dn.length + 1) (by omega)
    rw [hx2j] at hj1
    have e3 : left - (x2 :: r2).length = left - (r2.length + 1) := by rw [List.length_cons]
    induction W with
    | nil =>
      intro c A ch pk sv sz hpz pl sg bu wt hc hW hWo hch hpk hpc hpi hsc hA hgd hR
      have h40 := hA.1.2.2
      iterate 2 refine hX ?_
      refine And.intro (fun h => absurd h (nneg (by omega))) (fun _ => ?_)
      iterate 4 refine hX ?_
      by_cases hfull : A.length = 40
      · refine And.intro (fun _ => ?_) (fun h => absurd ((nle (a := 40) (by omega) (by omega)).mpr (by omega)) h)
        refine hX ?_
        rw [take40_full hfull] at hR
        subst hR
        exact hq ch pk sv sz hpz pl sg bu wt (chX_low (fun y hy => by rw [hs]; exact List.mem_append_right _ hy) hbz hch) hpk hsc hA
      refine And.intro (fun h => absurd ((nle (a := 40) (by omega) (by omega)).mp h) (by omega)) (fun _ => ?_)
      iterate 11 refine hX ?_
      rw [show nI left - (nI stl.length - 1 - nI dn.length) = nI (left - (r2.length + 1)) by
        rw [show nI stl.length - 1 = nI (stl.length - 1) from nsub (b := 1) (by omega), nsub (by omega), nsub (by omega)]; congr 1; omega]
      have hno := cds_nil hl6 hW
      rw [e3] at hno
      have hcn : cnx (dn.length = stl.length - 1) c (sS (stl.getD dn.length 0 % 3) (left - (r2.length + 1) - 1)) = cnx ((x2 :: r2).length = 0) c (sS (x % 3) (left - (r2.length + 1) - 1)) := by rw [hxj]; exact cnx_congr (by rw [List.length_cons]; omega) _ _
      refine And.intro trivial (cMw [.ref 0, .int (nI dn.length), .int (nI (left - (r2.length + 1)))] (fun u : List Int32 => u.length = 6 ∧ ∀ i, i < dn.length → u.getD i 0 = pk0.getD i 0) (fun _ => some (.int 0)) (fun u => (MW (rowE E) fr pa st rf tx ln bo ss ai fi op dp wr wm f1 f2 pm ch sd (nI stl.length) u sv sz (nI A.length) hpz pl sg wt bu hsh)) (by omega) rfl rfl (fun _ => rfl) (fun _ => rfl) (fun _ => rfl) (fun Q' hQ' => m_picksNext hX hst h6 (by omega) (by rw [hxj]; exact hx6) ⟨by omega, by omega⟩ hc hpk hch.1 hpc hss hbo (fun _ => hQ' _ ⟨by rw [List.length_set]; exact hpk, fun i hi => by rw [getD_set_ne (by omega)]; exact hpi i hi⟩) (fun h => by rw [hcn, hxj] at h; omega)) (fun u hu => ?_))
      refine hX (And.intro (fun _ => ?_) (fun h => absurd rfl h))
      exact hk A ch u sv sz hpz pl sg bu wt hch hu.1 hu.2 hsc hA hR
    | cons b W ihW =>
      intro c A ch pk sv sz hpz pl sg bu wt hc hW hWo hch hpk hpc hpi hsc hA hgd hR
      have h40 := hA.1.2.2
      obtain ⟨hb, hb1, -⟩ := hWo b List.mem_cons_self
      rw [e3] at hb1
      iterate 2 refine hX ?_
      refine And.intro (fun h => absurd h (nneg (by omega))) (fun _ => ?_)
      iterate 4 refine hX ?_
      by_cases hfull : A.length = 40
      · refine And.intro (fun _ => ?_) (fun h => absurd ((nle (a := 40) (by omega) (by omega)).mpr (by omega)) h)
        refine hX ?_
        rw [take40_full hfull] at hR
        subst hR
        exact hq ch pk sv sz hpz pl sg bu wt (chX_low (fun y hy => by rw [hs]; exact List.mem_append_right _ hy) hbz hch) hpk hsc hA
      refine And.intro (fun h => absurd ((nle (a := 40) (by omega) (by omega)).mp h) (by omega)) (fun _ => ?_)
      iterate 11 refine hX ?_
      rw [show nI left - (nI stl.length - 1 - nI dn.length) = nI (left - (r2.length + 1)) by
        rw [show nI stl.length - 1 = nI (stl.length - 1) from nsub (b := 1) (by omega), nsub (by omega), nsub (by omega)]; congr 1; omega]
      obtain ⟨hy1, hy2, hy3⟩ := cds_cons hl6 hW
      rw [e3] at hy1 hy2 hy3
      have hcn : cnx (dn.length = stl.length - 1) c (sS (stl.getD dn.length 0 % 3) (left - (r2.length + 1) - 1)) = cnx ((x2 :: r2).length = 0) c (sS (x % 3) (left - (r2.length + 1) - 1)) := by rw [hxj]; exact cnx_congr (by rw [List.length_cons]; omega) _ _
      have hc18 := sS_le (P := x % 3) (k := left - (r2.length + 1)) (by omega) (by omega)
      generalize hcc : cnx ((x2 :: r2).length = 0) c (sS (x % 3) (left - (r2.length + 1) - 1)) = c' at hy1 hy2 hy3 hcn
      refine And.intro trivial (cMw [.ref 0, .int (nI dn.length), .int (nI (left - (r2.length + 1)))] (fun u : List Int32 × List Int32 => u.1 = pk.set dn.length (nI c') ∧ u.2 = ch.set x (nI (wB b))) (fun _ => some (.int 1)) (fun u => (MW (rowE E) fr pa st rf tx ln bo ss ai fi op dp wr wm f1 f2 pm u.2 sd (nI stl.length) u.1 sv sz (nI A.length) hpz pl sg wt bu hsh)) (by omega) rfl rfl (fun _ => rfl) (fun _ => rfl) (fun _ => rfl) (fun Q' hQ' => m_picksNext hX hst h6 (by omega) (by rw [hxj]; exact hx6) ⟨by omega, by omega⟩ hc hpk hch.1 hpc hss hbo (fun h => by rw [hcn, hxj] at h; omega) (fun _ => hQ' (_, _) ⟨by rw [hcn], by rw [hcn, hxj, hy2]⟩)) ?_)
      rintro ⟨pk1, ch1⟩ ⟨rfl, rfl⟩
      dsimp only
      refine hX (And.intro (fun h => absurd h (by decide)) (fun _ => ?_))
      iterate 6 refine hX ?_
      rw [show nI stl.length - 1 = nI (stl.length - 1) from nsub (b := 1) (by omega)]
      refine And.intro (fun h => absurd ((neq (by omega) (by omega)).mp h) (by omega)) (fun _ => ?_)
      have hch1 := chX_set hch hbl hx6 hb
      have hchl := hch.1
      have hcx : (ch.set x (nI (wB b))).getD x 0 = nI (wB b) := getD_set_eq (by omega)
      iterate 7 refine hX ?_
      refine And.intro (vp_in_nI (by omega) (by omega)) ?_
      rw [nI_clamp (by omega), hj0]
      refine hX ?_
      refine And.intro (vp_in_nI (by rw [List.length_set]; omega) (by rw [List.length_set]; omega)) ?_
      rw [nI_clamp (by omega), hcx]
      refine hX (cP [] [.int (nI (wB b))] [] (some (.int (nI b.length))) [.int (nI b.length), .int (nI left)] (by omega) rfl rfl rfl rfl (fun Q' hQ' => m_sizeOf hX hb hQ') ?_)
      iterate 13 refine hX ?_
      rw [nsub (by omega), show nI dn.length + 1 = nI (dn.length + 1) from (nI_succ _).symm]
      refine And.intro (vp_in_nI (by omega) (by omega)) ?_
      rw [nI_clamp (by omega), hj1]
      iterate 2 refine hX ?_
      refine And.intro (by decide) ?_
      rw [show nI x2 - nI x2 / 3 * 3 = nI (x2 % 3) from nrem (b := 3) (by omega) (by omega) (by omega)]
      iterate 2 refine hX ?_
      rw [show (7 : Int32) * nI (x2 % 3) = nI (7 * (x2 % 3) + 0) by rw [show (7 : Int32) = nI 7 from rfl, nmul]; rfl]
      refine And.intro (vp_in_nI (by rw [hss.1]; omega) (by rw [hss.1]; omega)) ?_
      rw [nI_clamp (by omega), ss_at hss (by omega) (by omega)]
      iterate 3 refine hX ?_
      refine And.intro (vp_in_nI (by rw [List.length_set]; omega) (by rw [List.length_set]; omega)) ?_
      rw [nI_clamp (by omega)]
      refine hX ?_
      have hs2 : stl = (dn ++ [x]) ++ x2 :: r2 := by rw [hs, List.append_assoc]; rfl
      have hdl : (dn ++ [x]).length = dn.length + 1 := by rw [List.length_append]; rfl
      have hlv : r2.length + 1 ≤ left - b.length := by omega
      have hcen : cen x (x2 :: r2) left bs b = (cds x2 r2 (left - b.length) (sS (x2 % 3) 0)).flatMap (cen x2 r2 (left - b.length) (bs.set x b)) := by rw [cen, enum_cds hlv (by omega)]
      rw [List.flatMap_cons, hcen] at hgd hR
      have hpk1 : ((pk.set dn.length (nI c')).set (dn.length + 1) (nI (sS (x2 % 3) 0) - 1)).length = 6 := by rw [List.length_set, List.length_set]; exact hpk
      have := ih x2 (dn ++ [x]) hs2 (left - b.length) hlv (by omega) (bs.set x b) (by rw [List.length_set]; exact hbl) (fun y hy hys => by rw [getD_set_ne (fun q => hys (by rw [← q, hs]; simp))]; exact hbz y hy hys) (W.flatMap (cen x (x2 :: r2) left bs) ++ Pn) ((pk.set dn.length (nI c')).set (dn.length + 1) (nI (sS (x2 % 3) 0) - 1)) (fun A2 ch2 pk2 sv2 sz2 hp2 pl2 sg2 bu2 wt2 z1 z2 z3 z4 z5 z6 => by
        have hzx := z1.2 x hx6 hxr
        rw [getD_set_eq (by omega)] at hzx
        have hz40 := z5.1.2.2
        have hz1l := z1.1
        rw [hdl] at z3 ⊢
        iterate 4 refine hX ?_
        rw [nI_predA]
        refine And.intro (fun h => absurd h (nneg (by omega))) (fun _ => ?_)
        iterate 6 refine hX ?_
        refine And.intro (vp_in_nI (by omega) (by omega)) ?_
        rw [nI_clamp (by omega), hj0]
        refine hX ?_
        refine And.intro (vp_in_nI (by omega) (by omega)) ?_
        rw [nI_clamp (by omega), hzx.2]
        refine hX (cP [] [.int (nI (wB b))] [] (some (.int (nI b.length))) [.int (nI b.length), .int (nI (left - b.length))] (by omega) rfl rfl rfl rfl (fun Q' hQ' => m_sizeOf hX hb hQ') ?_)
        iterate 4 refine hX ?_
        rw [nadd, show left - b.length + b.length = left by omega]
        refine ihW (c' + 1) A2 ch2 pk2 sv2 sz2 hp2 pl2 sg2 bu2 wt2 (by omega) hy3 (fun d hd => hWo d (List.mem_cons_of_mem _ hd)) (chX_back z1) z2 ?_ (fun i hi => ?_) z4 z5 (fun bs2 h2 => hgd bs2 (List.mem_append_right _ h2)) z6
        · rw [z3 dn.length (by omega), getD_set_ne (by omega), getD_set_eq (by omega)]
          exact (nI_pred _).symm
        · rw [z3 i (by omega), getD_set_ne (by omega), getD_set_ne (by omega)]
          exact hpi i hi) _ (sS (x2 % 3) 0) A (ch.set x (nI (wB b))) _ sv sz hpz pl sg bu wt (sS_le (by omega) (by omega)) rfl (cds_ok hlv (by omega)) hch1 hpk1 (by rw [hdl, getD_set_eq (by rw [List.length_set]; omega)]) (fun i hi => rfl) hsc hA (fun bs2 h2 => hgd bs2 (List.mem_append_left _ h2)) (by rw [hR, List.append_assoc])
      rw [hdl] at this
      exact this
end MO
