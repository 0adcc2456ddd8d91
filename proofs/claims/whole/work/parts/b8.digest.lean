/-! The model: bodies as they are written, becomes, digest. -/
def mxL (h : Int64) (v : Int32) : Int64 := 31 * h + v.toInt64
def bdW (bs : List (List Nat)) (n : Nat) : List Int32 := (List.range n).flatMap fun x => (wS ((bs.getD x []).map ltN) []).1
def slW (bs : List (List Nat)) : List Int32 := nI (szB bs 6) :: bdW bs 6
def sdV (E : List (List Int32)) (k : Nat) : Int32 := sfN (E.getD (k / 4) []) (k % 4)
def paV (E : List (List Int32)) (w : Nat) : Int32 := nI (hmN E.flatten (prs E.flatten E 0) (nI w))
def d1 (s : St) : Int64 := ((List.range 8).map (fcN s)).foldl mxL 2473
def d2 (s : St) : Int64 := ((List.range (8 * (s.2.1.length / 2))).map (sdV s.2.1)).foldl mxL (d1 s)
def d3 (s : St) : Int64 := ((List.range 4).map (paV s.2.1)).foldl mxL (d2 s)
def d4 (s : St) : Int64 := ((sols s.2.1).flatMap slW).foldl mxL (mxL (d3 s) (nI (sols s.2.1).length))
def sDigest (s : St) : Int64 × St := (d4 s, s)
theorem fold_succ (f : Nat → Int32) (k : Nat) (h : Int64) : ((List.range (k + 1)).map f).foldl mxL h = mxL (((List.range k).map f).foldl mxL h) (f k) := by
  rw [List.range_succ, List.map_append, List.foldl_append]
  rfl
theorem bdW_succ (bs : List (List Nat)) (x : Nat) : bdW bs (x + 1) = bdW bs x ++ (wS ((bs.getD x []).map ltN) []).1 := by
  rw [bdW, List.range_succ, List.flatMap_append]
  simp [bdW]
section MR
variable {sc : List Int32} {X : pX} {B : pB} {Q : pQ} {nw fr pa rf tx bo ss op wr f1 f2 ch sd pk sv sz hpz pl sg bu : List Int32} {st ln ai fi dp wm pm sm vm wt : Int32} {hsh : Int64}
theorem m_wb_loop (hX : Cl sc X) (hB : 4 ≤ B.1) {b : List Nat} (hb : bOk b) : ∀ (y : List Nat) (k : Nat) (s : List Nat) (o wr op : List Int32), b.drop k = y → k ≤ b.length → s.length + y.length ≤ 41 → (∀ p ∈ s, 1 ≤ p ∧ p ≤ 2) → stQ s op → wqR o wr → o.length + (wS (y.map ltN) s).1.length ≤ 200 → (∀ wr' op' dp', wqR (o ++ (wS (y.map ltN) s).1) wr' → op'.length = 41 → Q none (MW nw fr pa st rf tx ln bo ss ai fi op' dp' wr' (nI (o ++ (wS (y.map ltN) s).1).length) f1 f2 pm ch sd sm pk sv sz vm hpz pl sg wt bu hsh)) → X B 180 17 [some (.ref 0), some (.int (nI (wB b))), some (.int (nI b.length)), some (.int (nI k))] [] (MW nw fr pa st rf tx ln bo ss ai fi op (nI s.length) wr (nI o.length) f1 f2 pm ch sd sm pk sv sz vm hpz pl sg wt bu hsh) Q := by
  have h6 := hb.1
  intro y
  induction y with
  | nil =>
    intro k s o wr op hy hk h3 hs hS hR hlen hq
    have hkb : k = b.length := by have := congrArg List.length hy; rw [List.length_drop] at this; simp at this; omega
    subst hkb
    iterate 3 refine hX ?_
    refine And.intro (fun _ => ?_) (fun h => absurd (Int32.le_refl _) h)
    refine hX ?_
    have := hq wr op (nI s.length) (by rw [List.map_nil, wS, List.append_nil]; exact hR) hS.1
    rw [List.map_nil, wS, List.append_nil] at this
    exact this
  | cons d y ih =>
    intro k s o wr op hy hk h3 hs hS hR hlen hq
    have hkb : k < b.length := by have := congrArg List.length hy; rw [List.length_drop, List.length_cons] at this; omega
    have hd : b.getD k 0 = d := by
      have : (b.drop k).getD 0 0 = d := by rw [hy]; rfl
      rw [List.getD_eq_getElem?_getD, List.getElem?_drop] at this
      rw [List.getD_eq_getElem?_getD]
      exact this
    have hdm : d ∈ b := List.mem_of_mem_drop (i := k) (by rw [hy]; exact List.mem_cons_self)
    have hy2 : b.drop (k + 1) = y := by rw [← List.drop_drop, hy]; rfl
    have hd16 := hb.2 d hdm
    have hpr : prI (ltN d) = nI (arN (ltN d)) := by rw [prI_ltN d (by omega) hd16.1, arN_ltN d (by omega)]
    rw [List.length_cons] at h3
    rw [List.map_cons, wS, List.length_append] at hlen
    iterate 3 refine hX ?_
    refine And.intro (fun h => absurd ((nle (by omega) (by omega)).mp h) (by omega)) (fun _ => ?_)
    iterate 5 refine hX ?_
    refine cP [] [.int (nI (wB b)), .int (nI b.length), .int (nI k)] [] (some (.int (nI (b.getD k 0)))) [.int (nI (b.getD k 0)), .ref 0] (by omega) rfl rfl rfl rfl (fun Q' hQ' => m_signAt hX hb (by omega) hQ') ?_
    rw [hd]
    refine hX ?_
    refine cP [] [.int (nI d)] [] (some (.int (ltN d))) [.int (ltN d), .ref 0] (by omega) rfl rfl rfl rfl (fun Q' hQ' => m_byteOf hX hd16.1 hd16.2 hQ') ?_
    refine hX ?_
    refine And.intro trivial (cMw [.ref 0, .int (ltN d)] (fun u : List Int32 × List Int32 => wqR (o ++ (wL s (ltN d)).1) u.1 ∧ stQ (wL s (ltN d)).2 u.2) (fun _ => none) (fun u => (MW nw fr pa st rf tx ln bo ss ai fi u.2 (nI (wL s (ltN d)).2.length) u.1 (nI (o ++ (wL s (ltN d)).1).length) f1 f2 pm ch sd sm pk sv sz vm hpz pl sg wt bu hsh)) (by omega) rfl rfl (fun _ => rfl) (fun _ => rfl) (fun _ => rfl) (fun Q' hQ' => m_writesLetter hX (by show 3 ≤ B.1 - 1; omega) hpr hs hS (by omega) hR (by omega) (fun w o a b => hQ' (w, o) ⟨a, b⟩)) (fun u hu => ?_))
    iterate 2 refine hX ?_
    rw [show nI k + 1 = nI (k + 1) from (nI_succ k).symm]
    have hwl := (wL_sum s (ltN d) (fun p hp => (hs p hp).1)).2.2
    exact ih (k + 1) _ _ u.1 u.2 hy2 (by omega) (by omega) (wL_2 s (ltN d) hs) hu.2 hu.1 (by rw [List.length_append]; omega) (fun wr2 op2 dp2 a b => by
      have := hq wr2 op2 dp2 (by rw [List.append_assoc] at a; exact a) b
      rw [List.append_assoc]
      exact this)
theorem m_writesBody (hX : Cl sc X) (hB : 4 ≤ B.1) {b : List Nat} (hb : bOk b) (ho : op.length = 41) (hwr : wr.length = 200) (hq : ∀ wr' op' dp', wqR (wS (b.map ltN) []).1 wr' → op'.length = 41 → Q none (MW nw fr pa st rf tx ln bo ss ai fi op' dp' wr' (nI (wS (b.map ltN) []).1.length) f1 f2 pm ch sd sm pk sv sz vm hpz pl sg wt bu hsh)) : X B 180 0 [some (.ref 0), some (.int (nI (wB b))), none, none] [] (MW nw fr pa st rf tx ln bo ss ai fi op dp wr wm f1 f2 pm ch sd sm pk sv sz vm hpz pl sg wt bu hsh) Q := by
  have h6 := hb.1
  have hl := bodyW_len hb
  iterate 8 refine hX ?_
  refine cP [] [.int (nI (wB b))] [] (some (.int (nI b.length))) [.int (nI b.length)] (by omega) rfl rfl rfl rfl (fun Q' hQ' => m_sizeOf hX hb hQ') ?_
  iterate 3 refine hX ?_
  exact m_wb_loop hX hB hb b 0 [] [] wr op rfl (Nat.zero_le _) (by rw [List.length_nil]; omega) (fun p hp => by simp at hp) (stQ_nil ho) (wqR_nil hwr) (by rw [List.length_nil]; omega) hq
theorem c_writesBody (hX : Cl sc X) (hB : 5 ≤ B.1) {me n : Nat} {ls : pL} {b : List Nat} (hb : bOk b) (ho : op.length = 41) (hwr : wr.length = 200) (hq : ∀ wr' op' dp', wqR (wS (b.map ltN) []).1 wr' → op'.length = 41 → X B me n ls [] (MW nw fr pa st rf tx ln bo ss ai fi op' dp' wr' (nI (wS (b.map ltN) []).1.length) f1 f2 pm ch sd sm pk sv sz vm hpz pl sg wt bu hsh) Q) : oCallV 180 11 2 4 n X B me ls [.int (nI (wB b)), .ref 0] (MW nw fr pa st rf tx ln bo ss ai fi op dp wr wm f1 f2 pm ch sd sm pk sv sz vm hpz pl sg wt bu hsh) Q := by
  refine And.intro trivial (cMw [.ref 0, .int (nI (wB b))] (fun u : List Int32 × List Int32 × Int32 => wqR (wS (b.map ltN) []).1 u.1 ∧ u.2.1.length = 41) (fun _ => none) (fun u => (MW nw fr pa st rf tx ln bo ss ai fi u.2.1 u.2.2 u.1 (nI (wS (b.map ltN) []).1.length) f1 f2 pm ch sd sm pk sv sz vm hpz pl sg wt bu hsh)) (by omega) rfl rfl (fun _ => rfl) (fun _ => rfl) (fun _ => rfl) (fun Q' hQ' => m_writesBody hX (by show 4 ≤ B.1 - 1; omega) hb ho hwr (fun a b c d e => hQ' (a, b, c) ⟨d, e⟩)) (fun u hu => hq u.1 u.2.1 u.2.2 hu.1 hu.2))
theorem c_mix (hX : Cl sc X) (hB : 1 ≤ B.1) {me n : Nat} {ls : pL} {v : Int32} (hq : X B me n ls [] (MW nw fr pa st rf tx ln bo ss ai fi op dp wr wm f1 f2 pm ch sd sm pk sv sz vm hpz pl sg wt bu (mxL hsh v)) Q) : oCallV 186 11 2 2 n X B me ls [.int v, .ref 0] (MW nw fr pa st rf tx ln bo ss ai fi op dp wr wm f1 f2 pm ch sd sm pk sv sz vm hpz pl sg wt bu hsh) Q :=
  And.intro trivial (cDw [.ref 0, .int v] none (MW nw fr pa st rf tx ln bo ss ai fi op dp wr wm f1 f2 pm ch sd sm pk sv sz vm hpz pl sg wt bu (mxL hsh v)) hB rfl rfl rfl rfl rfl (fun Q' hQ' => by
    repeat refine hX ?_
    exact hQ') hq)
theorem m_ms_in (hX : Cl sc X) (hB : 1 ≤ B.1) {o : List Int32} (hR : wqR o wr) {l1 : Option Value} {z2 : Int32} {h0 : Int64} (hq : X B 187 59 [some (.ref 0), l1, some (.int z2), some (.int (nI o.length))] [] (MW nw fr pa st rf tx ln bo ss ai fi op dp wr (nI o.length) f1 f2 pm ch sd sm pk sv sz vm hpz pl sg wt bu (o.foldl mxL h0)) Q) : ∀ (n k : Nat), k + n = o.length → X B 187 35 [some (.ref 0), l1, some (.int z2), some (.int (nI k))] [] (MW nw fr pa st rf tx ln bo ss ai fi op dp wr (nI o.length) f1 f2 pm ch sd sm pk sv sz vm hpz pl sg wt bu ((o.take k).foldl mxL h0)) Q := by
  have h2 := hR.2.1
  intro n
  induction n with
  | zero =>
    intro k hk
    have : k = o.length := by omega
    subst this
    rw [List.take_length]
    iterate 4 refine hX ?_
    refine And.intro (fun _ => ?_) (fun h => absurd (Int32.le_refl _) h)
    exact hq
  | succ n ih =>
    intro k hk
    iterate 4 refine hX ?_
    refine And.intro (fun h => absurd ((nle (by omega) (by omega)).mp h) (by omega)) (fun _ => ?_)
    iterate 5 refine hX ?_
    refine And.intro (vp_in_nI (by rw [hR.1]; omega) (by rw [hR.1]; omega)) ?_
    rw [nI_clamp (by omega), wqR_at hR (by omega)]
    refine hX ?_
    refine c_mix hX hB ?_
    iterate 2 refine hX ?_
    rw [show nI k + 1 = nI (k + 1) from (nI_succ k).symm]
    have := ih (k + 1) (by omega)
    rw [take_succ_getD 0 (by omega), List.foldl_append] at this
    exact this
theorem m_ms_loop (hX : Cl sc X) (hB : 5 ≤ B.1) {A : List (List (List Nat))} (hA : slB A sv sz) {i : Nat} (hi : i < A.length) (hok : ∀ y, y < 6 → bOk ((A.getD i []).getD y [])) {h0 : Int64} (hq : ∀ wr wm op dp, wr.length = 200 → op.length = 41 → Q none (MW nw fr pa st rf tx ln bo ss ai fi op dp wr wm f1 f2 pm ch sd sm pk sv sz vm hpz pl sg wt bu ((bdW (A.getD i []) 6).foldl mxL h0))) : ∀ (n x : Nat), x + n = 6 → ∀ (wr op : List Int32) (wm dp : Int32) (l3 : Option Value), wr.length = 200 → op.length = 41 → X B 187 12 [some (.ref 0), some (.int (nI i)), some (.int (nI x)), l3] [] (MW nw fr pa st rf tx ln bo ss ai fi op dp wr wm f1 f2 pm ch sd sm pk sv sz vm hpz pl sg wt bu ((bdW (A.getD i []) x).foldl mxL h0)) Q := by
  have h40 := hA.1.2.2
  intro n
  induction n with
  | zero =>
    intro x hx wr op wm dp l3 hwr ho
    have : x = 6 := by omega
    subst this
    iterate 3 refine hX ?_
    refine And.intro (fun _ => ?_) (fun h => absurd (by decide) h)
    refine hX ?_
    exact hq wr wm op dp hwr ho
  | succ n ih =>
    intro x hx wr op wm dp l3 hwr ho
    iterate 3 refine hX ?_
    refine And.intro (fun h => absurd ((nle (a := 6) (by omega) (by omega)).mp h) (by omega)) (fun _ => ?_)
    iterate 9 refine hX ?_
    rw [show (6 : Int32) * nI i + nI x = nI (6 * i + x) by rw [show (6 : Int32) = nI 6 from rfl, nmul, nadd]]
    refine And.intro (vp_in_nI (by rw [hA.1.1]; omega) (by rw [hA.1.1]; omega)) ?_
    rw [nI_clamp (by omega), (hA.2 i hi).1 x (by omega)]
    refine hX ?_
    refine c_writesBody hX hB (hok x (by omega)) ho hwr (fun wr1 op1 dp1 a1 a2 => ?_)
    iterate 2 refine hX ?_
    refine m_ms_in hX (by omega) a1 ?_ (wS (((A.getD i []).getD x []).map ltN) []).1.length 0 (by omega)
    iterate 2 refine hX ?_
    rw [show nI x + 1 = nI (x + 1) from (nI_succ x).symm]
    have := ih (x + 1) (by omega) wr1 op1 (nI (wS (((A.getD i []).getD x []).map ltN) []).1.length) dp1 (some (.int (nI (wS (((A.getD i []).getD x []).map ltN) []).1.length))) a1.1 a2
    rw [bdW_succ, List.foldl_append] at this
    exact this
theorem m_mixSolution (hX : Cl sc X) (hB : 5 ≤ B.1) {A : List (List (List Nat))} (hA : slB A sv sz) {i : Nat} (hi : i < A.length) (hok : ∀ y, y < 6 → bOk ((A.getD i []).getD y [])) (ho : op.length = 41) (hwr : wr.length = 200) (hq : ∀ wr wm op dp, wr.length = 200 → op.length = 41 → Q none (MW nw fr pa st rf tx ln bo ss ai fi op dp wr wm f1 f2 pm ch sd sm pk sv sz vm hpz pl sg wt bu ((slW (A.getD i [])).foldl mxL hsh))) : X B 187 0 [some (.ref 0), some (.int (nI i)), none, none] [] (MW nw fr pa st rf tx ln bo ss ai fi op dp wr wm f1 f2 pm ch sd sm pk sv sz vm hpz pl sg wt bu hsh) Q := by
  have h40 := hA.1.2.2
  iterate 5 refine hX ?_
  refine And.intro (vp_in_nI (by rw [hA.1.2.1]; omega) (by rw [hA.1.2.1]; omega)) ?_
  rw [nI_clamp (by omega), (hA.2 i hi).2]
  refine hX ?_
  refine c_mix hX (by omega) ?_
  iterate 2 refine hX ?_
  exact m_ms_loop hX hB hA hi hok hq 6 0 rfl wr op wm dp none hwr ho
theorem m_dg1 (hX : Cl sc X) (hB : 5 ≤ B.1) {s : St} (hg : gE s.2.1) {h0 : Int64} (hq : X B 188 30 [some (.ref 0), some (.int (nI 8))] [] (MW (rowE s.2.1) fr pa (nI s.2.2.1.length) (rfR s.2.2.2.1 s.2.2.2.2.1 s.2.2.2.2.2) tx (nI s.1.length) bo ss ai fi op dp wr wm f1 f2 pm ch sd sm pk sv sz vm hpz pl sg wt bu (((List.range 8).map (fcN s)).foldl mxL h0)) Q) : ∀ (n k : Nat), k + n = 8 → X B 188 9 [some (.ref 0), some (.int (nI k))] [] (MW (rowE s.2.1) fr pa (nI s.2.2.1.length) (rfR s.2.2.2.1 s.2.2.2.2.1 s.2.2.2.2.2) tx (nI s.1.length) bo ss ai fi op dp wr wm f1 f2 pm ch sd sm pk sv sz vm hpz pl sg wt bu (((List.range k).map (fcN s)).foldl mxL h0)) Q := by
  intro n
  induction n with
  | zero =>
    intro k hk
    have : k = 8 := by omega
    subst this
    iterate 3 refine hX ?_
    refine And.intro (fun _ => ?_) (fun h => absurd (by decide) h)
    exact hq
  | succ n ih =>
    intro k hk
    iterate 3 refine hX ?_
    refine And.intro (fun h => absurd ((nle (a := 8) (by omega) (by omega)).mp h) (by omega)) (fun _ => ?_)
    iterate 4 refine hX ?_
    refine And.intro trivial (cPw [.ref 0, .int (nI k)] (some (.int (fcN s k))) (by omega) rfl rfl rfl (fun Q' hQ' => m_toldOf (s := s) hX (by show 4 ≤ B.1 - 1; omega) hg (by omega) hQ') ?_)
    refine hX ?_
    refine c_mix hX (by omega) ?_
    iterate 2 refine hX ?_
    rw [show nI k + 1 = nI (k + 1) from (nI_succ k).symm]
    have := ih (k + 1) (by omega)
    rw [fold_succ] at this
    exact this
theorem m_dg2 (hX : Cl sc X) (hB : 5 ≤ B.1) {E : List (List Int32)} (hg : gE E) {h0 : Int64} (hq : ∀ op dp, op.length = 41 → X B 188 71 [some (.ref 0), some (.int (nI (8 * (E.length / 2))))] [] (MW (rowE E) fr pa st rf tx ln bo ss ai fi op dp wr wm f1 f2 pm ch sd sm pk sv sz vm hpz pl sg wt bu (((List.range (8 * (E.length / 2))).map (sdV E)).foldl mxL h0)) Q) : ∀ (n k : Nat), k + n = 8 * (E.length / 2) → ∀ (op : List Int32) (dp : Int32), op.length = 41 → X B 188 32 [some (.ref 0), some (.int (nI k))] [] (MW (rowE E) fr pa st rf tx ln bo ss ai fi op dp wr wm f1 f2 pm ch sd sm pk sv sz vm hpz pl sg wt bu (((List.range k).map (sdV E)).foldl mxL h0)) Q := by
  have hrl := rowE_len hg
  have h8 := hg.1.1
  have e8 : (8 : Int32) * nI (E.length / 2) = nI (8 * (E.length / 2)) := by rw [show (8 : Int32) = nI 8 from rfl, nmul]
  intro n
  induction n with
  | zero =>
    intro k hk op dp ho
    have : k = 8 * (E.length / 2) := by omega
    subst this
    iterate 6 refine hX ?_
    refine And.intro (vp_in_nI (n := 0) (by omega) (by omega)) ?_
    rw [show Int32.toNatClampNeg 0 = 0 from rfl, rowE_0]
    iterate 2 refine hX ?_
    rw [e8]
    refine And.intro (fun _ => ?_) (fun h => absurd (Int32.le_refl _) h)
    exact hq op dp ho
  | succ n ih =>
    intro k hk op dp ho
    iterate 6 refine hX ?_
    refine And.intro (vp_in_nI (n := 0) (by omega) (by omega)) ?_
    rw [show Int32.toNatClampNeg 0 = 0 from rfl, rowE_0]
    iterate 2 refine hX ?_
    rw [e8]
    refine And.intro (fun h => absurd ((nle (by omega) (by omega)).mp h) (by omega)) (fun _ => ?_)
    iterate 5 refine hX ?_
    refine And.intro (by decide) ?_
    rw [show nI k / 8 = nI (k / 8) from ndiv (b := 8) (by omega) (by omega) (by omega)]
    iterate 3 refine hX ?_
    refine And.intro (by decide) ?_
    rw [show nI k / 4 = nI (k / 4) from ndiv (b := 4) (by omega) (by omega) (by omega)]
    iterate 2 refine hX ?_
    refine And.intro (by decide) ?_
    rw [show nI (k / 4) - nI (k / 4) / 2 * 2 = nI (k / 4 % 2) from nrem (b := 2) (by omega) (by omega) (by omega)]
    iterate 3 refine hX ?_
    refine And.intro (by decide) ?_
    rw [show nI k - nI k / 4 * 4 = nI (k % 4) from nrem (b := 4) (by omega) (by omega) (by omega)]
    refine hX ?_
    refine And.intro trivial (cMw [.ref 0, .int (nI (k / 8)), .int (nI (k / 4 % 2)), .int (nI (k % 4))] (fun u : List Int32 × Int32 => u.1.length = 41) (fun _ => some (.int (sdV E k))) (fun u => (MW (rowE E) fr pa st rf tx ln bo ss ai fi u.1 u.2 wr wm f1 f2 pm ch sd sm pk sv sz vm hpz pl sg wt bu (((List.range k).map (sdV E)).foldl mxL h0))) (by omega) rfl rfl (fun _ => rfl) (fun _ => rfl) (fun _ => rfl) (fun Q' hQ' => m_ofSide hX (by show 4 ≤ B.1 - 1; omega) ho hg (by omega) (by omega) (by omega) (fun o d h => by
      have := hQ' (o, d) h
      rw [sdV, show k / 4 = 2 * (k / 8) + k / 4 % 2 by omega] at this
      exact this)) (fun u hu => ?_))
    refine hX ?_
    refine c_mix hX (by omega) ?_
    iterate 2 refine hX ?_
    rw [show nI k + 1 = nI (k + 1) from (nI_succ k).symm]
    have := ih (k + 1) (by omega) u.1 u.2 hu
    rw [fold_succ] at this
    exact this
theorem m_dg3 (hX : Cl sc X) (hB : 8 ≤ B.1) {E : List (List Int32)} (hg : gE E) {h0 : Int64} (hq : ∀ f1 f2 pm, f1.length = 24 → f2.length = 24 → X B 188 93 [some (.ref 0), some (.int (nI 4))] [] (MW (rowE E) fr pa st rf tx ln bo ss ai fi op dp wr wm f1 f2 pm ch sd sm pk sv sz vm hpz pl sg wt bu (((List.range 4).map (paV E)).foldl mxL h0)) Q) : ∀ (n k : Nat), k + n = 4 → ∀ (f1 f2 : List Int32) (pm : Int32), f1.length = 24 → f2.length = 24 → X B 188 73 [some (.ref 0), some (.int (nI k))] [] (MW (rowE E) fr pa st rf tx ln bo ss ai fi op dp wr wm f1 f2 pm ch sd sm pk sv sz vm hpz pl sg wt bu (((List.range k).map (paV E)).foldl mxL h0)) Q := by
  intro n
  induction n with
  | zero =>
    intro k hk f1 f2 pm a b
    have : k = 4 := by omega
    subst this
    iterate 3 refine hX ?_
    refine And.intro (fun _ => ?_) (fun h => absurd (by decide) h)
    exact hq f1 f2 pm a b
  | succ n ih =>
    intro k hk f1 f2 pm a b
    iterate 3 refine hX ?_
    refine And.intro (fun h => absurd ((nle (a := 4) (by omega) (by omega)).mp h) (by omega)) (fun _ => ?_)
    iterate 4 refine hX ?_
    refine And.intro trivial (cMw [.ref 0, .int (nI k)] (fun u : List Int32 × List Int32 × Int32 => u.1.length = 24 ∧ u.2.1.length = 24) (fun _ => some (.int (paV E k))) (fun u => (MW (rowE E) fr pa st rf tx ln bo ss ai fi op dp wr wm u.1 u.2.1 u.2.2 ch sd sm pk sv sz vm hpz pl sg wt bu (((List.range k).map (paV E)).foldl mxL h0))) (by omega) rfl rfl (fun _ => rfl) (fun _ => rfl) (fun _ => rfl) (fun Q' hQ' => m_tellPairs hX (by show 7 ≤ B.1 - 1; omega) hg ⟨a, b⟩ (fun c d e f g => hQ' (c, d, e) ⟨f, g⟩)) (fun u hu => ?_))
    refine hX ?_
    refine c_mix hX (by omega) ?_
    iterate 2 refine hX ?_
    rw [show nI k + 1 = nI (k + 1) from (nI_succ k).symm]
    have := ih (k + 1) (by omega) u.1 u.2.1 u.2.2 hu.1 hu.2
    rw [fold_succ] at this
    exact this
theorem m_dg4 (hX : Cl sc X) (hB : 6 ≤ B.1) {A : List (List (List Nat))} (hA : slB A sv sz) (hok : ∀ i, i < A.length → ∀ y, y < 6 → bOk ((A.getD i []).getD y [])) {h0 : Int64} (hq : ∀ wr wm op dp, wr.length = 200 → op.length = 41 → Q (some (.long ((A.flatMap slW).foldl mxL h0))) (MW nw fr pa st rf tx ln bo ss ai fi op dp wr wm f1 f2 pm ch sd sm pk sv sz (nI A.length) hpz pl sg wt bu ((A.flatMap slW).foldl mxL h0))) : ∀ (n i : Nat), i + n = A.length → ∀ (wr op : List Int32) (wm dp : Int32), wr.length = 200 → op.length = 41 → X B 188 107 [some (.ref 0), some (.int (nI i))] [] (MW nw fr pa st rf tx ln bo ss ai fi op dp wr wm f1 f2 pm ch sd sm pk sv sz (nI A.length) hpz pl sg wt bu (((A.take i).flatMap slW).foldl mxL h0)) Q := by
  have h40 := hA.1.2.2
  intro n
  induction n with
  | zero =>
    intro i hi wr op wm dp a b
    have : i = A.length := by omega
    subst this
    rw [List.take_length]
    iterate 4 refine hX ?_
    refine And.intro (fun _ => ?_) (fun h => absurd (Int32.le_refl _) h)
    iterate 3 refine hX ?_
    exact hq wr wm op dp a b
  | succ n ih =>
    intro i hi wr op wm dp a b
    iterate 4 refine hX ?_
    refine And.intro (fun h => absurd ((nle (by omega) (by omega)).mp h) (by omega)) (fun _ => ?_)
    iterate 3 refine hX ?_
    refine And.intro trivial (cMw [.ref 0, .int (nI i)] (fun u : List Int32 × Int32 × List Int32 × Int32 => u.1.length = 200 ∧ u.2.2.1.length = 41) (fun _ => none) (fun u => (MW nw fr pa st rf tx ln bo ss ai fi u.2.2.1 u.2.2.2 u.1 u.2.1 f1 f2 pm ch sd sm pk sv sz (nI A.length) hpz pl sg wt bu ((slW (A.getD i [])).foldl mxL (((A.take i).flatMap slW).foldl mxL h0)))) (by omega) rfl rfl (fun _ => rfl) (fun _ => rfl) (fun _ => rfl) (fun Q' hQ' => m_mixSolution hX (by show 5 ≤ B.1 - 1; omega) hA (by omega) (hok i (by omega)) b a (fun c d e f g h => hQ' (c, d, e, f) ⟨g, h⟩)) (fun u hu => ?_))
    iterate 2 refine hX ?_
    rw [show nI i + 1 = nI (i + 1) from (nI_succ i).symm]
    have := ih (i + 1) (by omega) u.1 u.2.2.1 u.2.1 u.2.2.2 hu.1 hu.2
    rw [take_succ_getD [] (by omega), List.flatMap_append, List.foldl_append] at this
    simp only [List.flatMap_cons, List.flatMap_nil, List.append_nil] at this
    exact this
theorem m_dg1s (hX : Cl sc X) (hB : 5 ≤ B.1) {s : St} (hg : gE s.2.1) {h0 D : Int64} (hD : ((List.range 8).map (fcN s)).foldl mxL h0 = D) (hq : X B 188 30 [some (.ref 0), some (.int (nI 8))] [] (MW (rowE s.2.1) fr pa (nI s.2.2.1.length) (rfR s.2.2.2.1 s.2.2.2.2.1 s.2.2.2.2.2) tx (nI s.1.length) bo ss ai fi op dp wr wm f1 f2 pm ch sd sm pk sv sz vm hpz pl sg wt bu D) Q) : X B 188 9 [some (.ref 0), some (.int (nI 0))] [] (MW (rowE s.2.1) fr pa (nI s.2.2.1.length) (rfR s.2.2.2.1 s.2.2.2.2.1 s.2.2.2.2.2) tx (nI s.1.length) bo ss ai fi op dp wr wm f1 f2 pm ch sd sm pk sv sz vm hpz pl sg wt bu h0) Q := by
  subst hD
  exact m_dg1 hX hB hg hq 8 0 rfl
theorem m_dg2s (hX : Cl sc X) (hB : 5 ≤ B.1) {E : List (List Int32)} (hg : gE E) (ho : op.length = 41) {h0 D : Int64} (hD : ((List.range (8 * (E.length / 2))).map (sdV E)).foldl mxL h0 = D) (hq : ∀ op dp, op.length = 41 → X B 188 71 [some (.ref 0), some (.int (nI (8 * (E.length / 2))))] [] (MW (rowE E) fr pa st rf tx ln bo ss ai fi op dp wr wm f1 f2 pm ch sd sm pk sv sz vm hpz pl sg wt bu D) Q) : X B 188 32 [some (.ref 0), some (.int (nI 0))] [] (MW (rowE E) fr pa st rf tx ln bo ss ai fi op dp wr wm f1 f2 pm ch sd sm pk sv sz vm hpz pl sg wt bu h0) Q := by
  subst hD
  exact m_dg2 hX hB hg hq (8 * (E.length / 2)) 0 (by omega) op dp ho
theorem m_dg3s (hX : Cl sc X) (hB : 8 ≤ B.1) {E : List (List Int32)} (hg : gE E) (h1 : f1.length = 24) (h2 : f2.length = 24) {h0 D : Int64} (hD : ((List.range 4).map (paV E)).foldl mxL h0 = D) (hq : ∀ f1 f2 pm, f1.length = 24 → f2.length = 24 → X B 188 93 [some (.ref 0), some (.int (nI 4))] [] (MW (rowE E) fr pa st rf tx ln bo ss ai fi op dp wr wm f1 f2 pm ch sd sm pk sv sz vm hpz pl sg wt bu D) Q) : X B 188 73 [some (.ref 0), some (.int (nI 0))] [] (MW (rowE E) fr pa st rf tx ln bo ss ai fi op dp wr wm f1 f2 pm ch sd sm pk sv sz vm hpz pl sg wt bu h0) Q := by
  subst hD
  exact m_dg3 hX hB hg hq 4 0 rfl f1 f2 pm h1 h2
theorem m_dg4s (hX : Cl sc X) (hB : 6 ≤ B.1) {A : List (List (List Nat))} (hA : slB A sv sz) (hok : ∀ i, i < A.length → ∀ y, y < 6 → bOk ((A.getD i []).getD y [])) (hwr : wr.length = 200) (ho : op.length = 41) {h0 D : Int64} (hD : (A.flatMap slW).foldl mxL h0 = D) (hq : ∀ wr wm op dp, wr.length = 200 → op.length = 41 → Q (some (.long D)) (MW nw fr pa st rf tx ln bo ss ai fi op dp wr wm f1 f2 pm ch sd sm pk sv sz (nI A.length) hpz pl sg wt bu D)) : X B 188 107 [some (.ref 0), some (.int (nI 0))] [] (MW nw fr pa st rf tx ln bo ss ai fi op dp wr wm f1 f2 pm ch sd sm pk sv sz (nI A.length) hpz pl sg wt bu h0) Q := by
  subst hD
  exact m_dg4 hX hB hA hok hq A.length 0 (by omega) wr op wm dp hwr ho
theorem m_copyS (hX : Cl sc X) {A : List (List (List Nat))} (hA : slB A sv sz) {i : Nat} (hi : i < A.length) (hok : ∀ y, y < 6 → bOk ((A.getD i []).getD y [])) {v2 v3 v4 : Int32} (hq : ∀ ch', chB (A.getD i []) ch' → X B 182 82 [some (.ref 0), some (.int (nI i)), some (.int v2), some (.int v3), some (.int v4), some (.int (nI 6))] [] (MW nw fr pa st rf tx ln bo ss ai fi op dp wr wm f1 f2 pm ch' sd sm pk sv sz vm hpz pl sg wt bu hsh) Q) : ∀ (n k : Nat), k + n = 6 → ∀ (f : List Int32), f.length = 6 → (∀ q, q < k → f.getD q 0 = nI (wB ((A.getD i []).getD q []))) → X B 182 50 [some (.ref 0), some (.int (nI i)), some (.int v2), some (.int v3), some (.int v4), some (.int (nI k))] [] (MW nw fr pa st rf tx ln bo ss ai fi op dp wr wm f1 f2 pm f sd sm pk sv sz vm hpz pl sg wt bu hsh) Q := by
  have h40 := hA.1.2.2
  intro n
  induction n with
  | zero =>
    intro k hk f h1 h2
    have : k = 6 := by omega
    subst this
    iterate 3 refine hX ?_
    refine And.intro (fun _ => ?_) (fun h => absurd (by decide) h)
    exact hq f ⟨h1, fun y hy => ⟨hok y hy, h2 y hy⟩⟩
  | succ n ih =>
    intro k hk f h1 h2
    iterate 3 refine hX ?_
    refine And.intro (fun h => absurd ((nle (a := 6) (by omega) (by omega)).mp h) (by omega)) (fun _ => ?_)
    iterate 11 refine hX ?_
    rw [show (6 : Int32) * nI i + nI k = nI (6 * i + k) by rw [show (6 : Int32) = nI 6 from rfl, nmul, nadd]]
    refine And.intro (vp_in_nI (by rw [hA.1.1]; omega) (by rw [hA.1.1]; omega)) ?_
    refine hX ?_
    refine And.intro (vp_in_nI (by omega) (by omega)) ?_
    rw [nI_clamp (by omega), nI_clamp (by omega), (hA.2 i hi).1 k (by omega)]
    iterate 2 refine hX ?_
    rw [show nI k + 1 = nI (k + 1) from (nI_succ k).symm]
    refine ih (k + 1) (by omega) _ (by rw [List.length_set]; exact h1) (fun q hq2 => ?_)
    by_cases e : k = q
    · subst e
      rw [getD_set_eq (by omega)]
    · rw [getD_set_ne e, h2 q (by omega)]
end MR
section MS
variable {sc : List Int32} {X : pX} {B : pB} {Q : pQ}
theorem sol_ok {E : List (List Int32)} {i : Nat} (hi : i < (sols E).length) : ∀ y, y < 6 → bOk (((sols E).getD i []).getD y []) := (sols_mem (getD_mem (d := []) hi)).2.2.2.2
theorem g_digest (hX : Cl sc X) (hB : 13 ≤ B.1) {s : St} {m : MT} (hI : MIf s m) (hq : ∀ m', MIf (sDigest s).2 m' → Q (some (.long (sDigest s).1)) (MWf m')) : X B 188 0 [some (.ref 0), none] [] (MWf m) Q := by
  obtain ⟨t, E, hs0, bd, no, fu⟩ := s
  obtain ⟨nw, fr, pa, st, rf, tx, ln, bo, ss, ai, fi, op, dp, wr, wm, f1, f2, pm, ch, sd, sm, pk, sv, sz, vm, hpz, pl, sg, wt, bu, hsh⟩ := m
  obtain ⟨⟨hg, hnw⟩, ⟨hP, hst⟩, hrf, hT, ⟨hbo, hss⟩, ⟨l1, l2, l3, l4, l5⟩, hln⟩ := id hI
  dsimp only at hg hnw hP hst hrf hT hbo hss l1 l2 l3 l4 l5 hln
  subst hnw hst hrf
  have hr3 : (rfR bd no fu).length = 3 := rfl
  obtain ⟨t1, t2, t3, rfl⟩ := id hT
  iterate 5 refine hX ?_
  refine m_dg1s (s := (t, E, hs0, bd, no, fu)) (D := d1 (t, E, hs0, bd, no, fu)) hX (by omega) hg rfl ?_
  iterate 2 refine hX ?_
  refine m_dg2s (D := d2 (t, E, hs0, bd, no, fu)) hX (by omega) hg l2 rfl (fun op1 dp1 a1 => ?_)
  iterate 2 refine hX ?_
  refine m_dg3s (D := d3 (t, E, hs0, bd, no, fu)) hX (by omega) hg l4 l5 rfl (fun f3 f4 pm1 b1 b2 => ?_)
  iterate 2 refine hX ?_
  refine c_solves hX (by omega) hg hss hbo hln (fun ch sd sm pk sv sz hpz pl sg bu wt a b => ?_)
  iterate 4 refine hX ?_
  refine c_mix hX (by omega) ?_
  iterate 2 refine hX ?_
  refine m_dg4s (D := d4 (t, E, hs0, bd, no, fu)) hX (by omega) b (fun i hi => sol_ok hi) l3 a1 rfl (fun wr1 wm1 op2 dp2 c1 c2 => ?_)
  exact hq (rowE E, fr, pa, nI hs0.length, rfR bd no fu, tx, nI t.length, bo, ss, ai, fi, op2, dp2, wr1, wm1, f3, f4, pm1, ch, sd, sm, pk, sv, sz, nI (sols E).length, hpz, pl, sg, wt, bu, d4 (t, E, hs0, bd, no, fu)) ⟨⟨hg, rfl⟩, ⟨hP, rfl⟩, rfl, hT, ⟨hbo, hss⟩, ⟨l1, c2, c1, b1, b2⟩, a⟩
theorem g_body (hX : Cl sc X) (hB : 13 ≤ B.1) {s : St} {m : MT} (hI : MIf s m) {i x k : Int32} (hq : ∀ m', MIf (sBody s i x k).2 m' → Q (some (.int (sBody s i x k).1)) (MWf m')) : X B 181 0 [some (.ref 0), some (.int i), some (.int x), some (.int k), none] [] (MWf m) Q := by
  obtain ⟨t, E, hs0, bd, no, fu⟩ := s
  obtain ⟨nw, fr, pa, st, rf, tx, ln, bo, ss, ai, fi, op, dp, wr, wm, f1, f2, pm, ch, sd, sm, pk, sv, sz, vm, hpz, pl, sg, wt, bu, hsh⟩ := m
  obtain ⟨⟨hg, hnw⟩, ⟨hP, hst⟩, hrf, hT, ⟨hbo, hss⟩, ⟨l1, l2, l3, l4, l5⟩, hln⟩ := id hI
  dsimp only at hg hnw hP hst hrf hT hbo hss l1 l2 l3 l4 l5 hln
  subst hnw hst hrf
  have hr3 : (rfR bd no fu).length = 3 := rfl
  have h40 := sols_le E
  have bad : ¬ (¬ i < 0 ∧ ¬ x < 0 ∧ x < 6 ∧ -1 ≤ k) → X B 181 18 [some (.ref 0), some (.int i), some (.int x), some (.int k), none] [] (MWf (rowE E, fr, pa, nI hs0.length, rfR bd no fu, tx, ln, bo, ss, ai, fi, op, dp, wr, wm, f1, f2, pm, ch, sd, sm, pk, sv, sz, vm, hpz, pl, sg, wt, bu, hsh)) Q := by
    intro h
    rw [sBody, if_neg h] at hq
    iterate 2 refine hX ?_
    refine c_mbad hX (by omega) hr3 ?_
    refine hX ?_
    exact hq (rowE E, fr, pa, nI hs0.length, bmp (rfR bd no fu) 0, tx, ln, bo, ss, ai, fi, op, dp, wr, wm, f1, f2, pm, ch, sd, sm, pk, sv, sz, vm, hpz, pl, sg, wt, bu, hsh) ⟨⟨hg, rfl⟩, ⟨hP, rfl⟩, bmp0 _ _ _, hT, ⟨hbo, hss⟩, ⟨l1, l2, l3, l4, l5⟩, hln⟩
  iterate 2 refine hX ?_
  refine And.intro (fun h => bad (fun q => q.1 h)) (fun hi => ?_)
  iterate 4 refine hX ?_
  refine cP [] [.int x, .int 0, .int 5] [] (some (.int (wiI x 0 5))) [.int (wiI x 0 5)] (by omega) rfl rfl rfl rfl (fun Q' hQ' => m_within hX hQ') ?_
  rw [show wiI x 0 5 = hsI x 6 from wi_hs (e := x) (n := 6) (by omega)]
  by_cases hx : ¬ x < 0 ∧ x < 6
  case neg =>
    rw [show hsI x 6 = 0 from if_neg hx]
    exact hX (And.intro (fun _ => bad (fun q => hx ⟨q.2.1, q.2.2.1⟩)) (fun h => absurd rfl h))
  have hx1 : hsI x 6 = 1 := if_pos hx
  rw [hx1]
  refine hX (And.intro (fun h => absurd h (by decide)) (fun _ => ?_))
  iterate 3 refine hX ?_
  refine And.intro (fun hk => ?_) (fun h => bad (fun q => h q.2.2.2))
  rw [sBody, if_pos ⟨hi, hx.1, hx.2, hk⟩] at hq
  obtain ⟨n, rfl, hn, hnc⟩ := i_nat hi
  obtain ⟨y, rfl, hy, hyc⟩ := hsI_is (by omega) hx1
  rw [hnc, hyc] at hq
  iterate 2 refine hX ?_
  refine c_solves hX (by omega) hg hss hbo hln (fun ch sd sm pk sv sz hpz pl sg bu wt a b => ?_)
  iterate 4 refine hX ?_
  by_cases hl : n < (sols E).length
  case neg =>
    rw [if_neg hl] at hq
    refine And.intro (fun h => absurd ((nlt (by omega) (by omega)).mp h) hl) (fun _ => ?_)
    iterate 2 refine hX ?_
    refine c_mno hX (by omega) hr3 ?_
    refine hX ?_
    exact hq (rowE E, fr, pa, nI hs0.length, bmp (rfR bd no fu) 1, tx, ln, bo, ss, ai, fi, op, dp, wr, wm, f1, f2, pm, ch, sd, sm, pk, sv, sz, nI (sols E).length, hpz, pl, sg, wt, bu, hsh) ⟨⟨hg, rfl⟩, ⟨hP, rfl⟩, bmp1 _ _ _, hT, ⟨hbo, hss⟩, ⟨l1, l2, l3, l4, l5⟩, a⟩
  rw [if_pos hl] at hq
  dsimp only at hq
  refine And.intro (fun _ => ?_) (fun h => absurd ((nlt (by omega) (by omega)).mpr hl) h)
  have hbk := sol_ok hl y hy
  have hwv := (b.2 n hl).1 y hy
  generalize ((sols E).getD n []).getD y [] = bb at hbk hwv hq
  have hw18 := wC_lt18 (bOk_rev hbk)
  iterate 8 refine hX ?_
  rw [show (6 : Int32) * nI n + nI y = nI (6 * n + y) by rw [show (6 : Int32) = nI 6 from rfl, nmul, nadd]]
  refine And.intro (vp_in_nI (by rw [b.1.1]; omega) (by rw [b.1.1]; omega)) ?_
  rw [nI_clamp (by omega), hwv]
  iterate 3 refine hX ?_
  have hz : wB bb = 0 ↔ bb = [] := by
    constructor
    · intro h
      apply Classical.byContradiction
      intro hne
      have := wC_pos (bOk_rev hbk).2 (by rw [ne_eq, List.reverse_eq_nil_iff]; exact hne)
      rw [wB] at h
      omega
    · intro h; rw [h]; rfl
  by_cases hb0 : bb = []
  · rw [bdK, if_pos hb0] at hq
    refine And.intro (fun _ => ?_) (fun h => absurd (by rw [hz.mpr hb0]; rfl) h)
    iterate 2 refine hX ?_
    exact hq (rowE E, fr, pa, nI hs0.length, rfR bd no fu, tx, ln, bo, ss, ai, fi, op, dp, wr, wm, f1, f2, pm, ch, sd, sm, pk, sv, sz, nI (sols E).length, hpz, pl, sg, wt, bu, hsh) ⟨⟨hg, rfl⟩, ⟨hP, rfl⟩, rfl, hT, ⟨hbo, hss⟩, ⟨l1, l2, l3, l4, l5⟩, a⟩
  · rw [bdK, if_neg hb0] at hq
    refine And.intro (fun h => absurd (hz.mp ((neq (b := 0) (by rw [wB]; omega) (by omega)).mp h)) hb0) (fun _ => ?_)
    iterate 3 refine hX ?_
    refine c_writesBody hX (by omega) hbk l2 l3 (fun wr1 op1 dp1 c1 c2 => ?_)
    iterate 3 refine hX ?_
    refine And.intro (fun h => ?_) (fun h => ?_)
    · rw [if_pos h] at hq
      iterate 2 refine hX ?_
      refine cP [] [.int (nI (wB bb))] [] (some (.int (nI bb.length))) [.int (nI bb.length)] (by omega) rfl rfl rfl rfl (fun Q' hQ' => m_sizeOf hX hbk hQ') ?_
      iterate 2 refine hX ?_
      exact hq (rowE E, fr, pa, nI hs0.length, rfR bd no fu, tx, ln, bo, ss, ai, fi, op1, dp1, wr1, nI (wS (bb.map ltN) []).1.length, f1, f2, pm, ch, sd, sm, pk, sv, sz, nI (sols E).length, hpz, pl, sg, wt, bu, hsh) ⟨⟨hg, rfl⟩, ⟨hP, rfl⟩, rfl, hT, ⟨hbo, hss⟩, ⟨l1, c2, c1.1, l4, l5⟩, a⟩
    · rw [if_neg h] at hq
      iterate 3 refine hX ?_
      refine And.intro trivial (cPw [.ref 0, .int k] (some (.int (tlK (wS (bb.map ltN) []).1 k))) (by omega) rfl rfl rfl (fun Q' hQ' => m_writtenAt hX c1 hk hQ') ?_)
      refine hX ?_
      exact hq (rowE E, fr, pa, nI hs0.length, rfR bd no fu, tx, ln, bo, ss, ai, fi, op1, dp1, wr1, nI (wS (bb.map ltN) []).1.length, f1, f2, pm, ch, sd, sm, pk, sv, sz, nI (sols E).length, hpz, pl, sg, wt, bu, hsh) ⟨⟨hg, rfl⟩, ⟨hP, rfl⟩, rfl, hT, ⟨hbo, hss⟩, ⟨l1, c2, c1.1, l4, l5⟩, a⟩
theorem g_becomes (hX : Cl sc X) (hB : 13 ≤ B.1) {s : St} {m : MT} (hI : MIf s m) {i e d k : Int32} (hq : ∀ m', MIf (sBecomes s i e d k).2 m' → Q (some (.int (sBecomes s i e d k).1)) (MWf m')) : X B 182 0 [some (.ref 0), some (.int i), some (.int e), some (.int d), some (.int k), none] [] (MWf m) Q := by
  obtain ⟨t, E, hs0, bd, no, fu⟩ := s
  obtain ⟨nw, fr, pa, st, rf, tx, ln, bo, ss, ai, fi, op, dp, wr, wm, f1, f2, pm, ch, sd, sm, pk, sv, sz, vm, hpz, pl, sg, wt, bu, hsh⟩ := m
  obtain ⟨⟨hg, hnw⟩, ⟨hP, hst⟩, hrf, hT, ⟨hbo, hss⟩, ⟨l1, l2, l3, l4, l5⟩, hln⟩ := id hI
  dsimp only at hg hnw hP hst hrf hT hbo hss l1 l2 l3 l4 l5 hln
  subst hnw hst hrf
  have hr3 : (rfR bd no fu).length = 3 := rfl
  have h40 := sols_le E
  have h8 := hg.1.1
  have bad : ¬ (¬ i < 0 ∧ hsI e (E.length / 2) = 1 ∧ (d = 0 ∨ d = 1) ∧ -1 ≤ k) → X B 182 25 [some (.ref 0), some (.int i), some (.int e), some (.int d), some (.int k), none] [] (MWf (rowE E, fr, pa, nI hs0.length, rfR bd no fu, tx, ln, bo, ss, ai, fi, op, dp, wr, wm, f1, f2, pm, ch, sd, sm, pk, sv, sz, vm, hpz, pl, sg, wt, bu, hsh)) Q := by
    intro h
    rw [sBecomes, if_neg h] at hq
    iterate 2 refine hX ?_
    refine c_mbad hX (by omega) hr3 ?_
    refine hX ?_
    exact hq (rowE E, fr, pa, nI hs0.length, bmp (rfR bd no fu) 0, tx, ln, bo, ss, ai, fi, op, dp, wr, wm, f1, f2, pm, ch, sd, sm, pk, sv, sz, vm, hpz, pl, sg, wt, bu, hsh) ⟨⟨hg, rfl⟩, ⟨hP, rfl⟩, bmp0 _ _ _, hT, ⟨hbo, hss⟩, ⟨l1, l2, l3, l4, l5⟩, hln⟩
  iterate 2 refine hX ?_
  refine And.intro (fun h => bad (fun q => q.1 h)) (fun hi => ?_)
  iterate 3 refine hX ?_
  refine c_isEq hX (by omega) hg ?_
  rcases hsI_or e (E.length / 2) with he | he
  · rw [he]
    exact hX (And.intro (fun _ => bad (fun q => by rw [he] at q; exact absurd q.2.1 (by decide))) (fun h => absurd rfl h))
  rw [he]
  refine hX (And.intro (fun h => absurd h (by decide)) (fun _ => ?_))
  iterate 2 refine hX ?_
  refine cP [] [.int d] [] (some (.int (if d = 0 ∨ d = 1 then 1 else 0))) [.int (if d = 0 ∨ d = 1 then 1 else 0)] (by omega) rfl rfl rfl rfl (fun Q' hQ' => m_isSide hX hQ') ?_
  by_cases hd : d = 0 ∨ d = 1
  case neg =>
    rw [if_neg hd]
    exact hX (And.intro (fun _ => bad (fun q => hd q.2.2.1)) (fun h => absurd rfl h))
  rw [if_pos hd]
  refine hX (And.intro (fun h => absurd h (by decide)) (fun _ => ?_))
  iterate 3 refine hX ?_
  refine And.intro (fun hk => ?_) (fun h => bad (fun q => h q.2.2.2))
  rw [sBecomes, if_pos ⟨hi, he, hd, hk⟩] at hq
  obtain ⟨n, rfl, hn, hnc⟩ := i_nat hi
  obtain ⟨e, rfl, he1, hec⟩ := hsI_is (by omega) he
  obtain ⟨dj, dk⟩ := d_nat hd
  rw [hnc, hec] at hq
  generalize d.toNatClampNeg = j at dj dk hq
  subst dj
  iterate 2 refine hX ?_
  refine c_solves hX (by omega) hg hss hbo hln (fun ch sd sm pk sv sz hpz pl sg bu wt a b => ?_)
  iterate 4 refine hX ?_
  by_cases hl : n < (sols E).length
  case neg =>
    rw [if_neg hl] at hq
    refine And.intro (fun h => absurd ((nlt (by omega) (by omega)).mp h) hl) (fun _ => ?_)
    iterate 2 refine hX ?_
    refine c_mno hX (by omega) hr3 ?_
    refine hX ?_
    exact hq (rowE E, fr, pa, nI hs0.length, bmp (rfR bd no fu) 1, tx, ln, bo, ss, ai, fi, op, dp, wr, wm, f1, f2, pm, ch, sd, sm, pk, sv, sz, nI (sols E).length, hpz, pl, sg, wt, bu, hsh) ⟨⟨hg, rfl⟩, ⟨hP, rfl⟩, bmp1 _ _ _, hT, ⟨hbo, hss⟩, ⟨l1, l2, l3, l4, l5⟩, a⟩
  rw [if_pos hl] at hq
  dsimp only at hq
  refine And.intro (fun _ => ?_) (fun h => absurd ((nlt (by omega) (by omega)).mpr hl) h)
  obtain ⟨-, hsl, hlr, hch, hok⟩ := sols_mem (getD_mem (d := []) hl)
  have h200 := slv_at e E hsl he1 j dk
  obtain ⟨-, -, -, t4⟩ := std_ok E.flatten
  obtain ⟨a1, a2, a3, a4, a5, a6, a7, a8, a9⟩ := id a
  iterate 2 refine hX ?_
  refine m_copyS hX b hl hok (fun ch1 hc1 => ?_) 6 0 rfl ch a1 (fun q h => by omega)
  generalize (sols E).getD n [] = bs at hsl hlr hch hok h200 hc1 hq
  have hbv : ∀ c ∈ E.flatten, bv (arN c) (bs.getD (kN c) []) := fun c hc => bv_rig hlr.2 hch (hg.2.2 c hc) (t4 c hc)
  iterate 5 refine hX ?_
  refine And.intro trivial (cMw [.ref 0, .int (nI e), .int (nI j), .int 0] (fun w : List Int32 × List Int32 × List Int32 × Int32 => brR (grw bs (E.getD (2 * e + j) [])) w.1 ∧ w.2.1.length = 300 ∧ w.2.2.1.length = 300) (fun _ => some (.int (nI (grw bs (E.getD (2 * e + j) [])).length))) (fun w => MWf (rowE E, fr, pa, nI hs0.length, rfR bd no fu, tx, ln, bo, ss, ai, fi, op, dp, wr, wm, f1, f2, pm, ch1, sd, sm, pk, sv, sz, nI (sols E).length, hpz, w.2.1, w.2.2.1, w.2.2.2, w.1, hsh)) (by omega) rfl rfl (fun _ => rfl) (fun _ => rfl) (fun _ => rfl) (fun Q' hQ' => m_builds (O := []) hX (by show 6 ≤ B.1 - 1; omega) hg hc1 hlr.2 hbv ⟨a7, a8⟩ he1 dk ⟨a9, by simp, by simp⟩ (by rw [List.length_nil]; omega) (fun p q r s t u => hQ' (p, q, r, s) ⟨t, u⟩)) ?_)
  rintro ⟨bu1, pl1, sg1, wt1⟩ ⟨w1, w2, w3⟩
  dsimp only at w1 w2 w3 ⊢
  generalize grw bs (E.getD (2 * e + j) []) = g at w1 h200 hq
  have fin : Q (some (.int (tlK g k))) (MWf (rowE E, fr, pa, nI hs0.length, rfR bd no fu, tx, ln, bo, ss, ai, fi, op, dp, wr, wm, f1, f2, pm, ch1, sd, sm, pk, sv, sz, nI (sols E).length, hpz, pl1, sg1, wt1, bu1, hsh)) := hq (rowE E, fr, pa, nI hs0.length, rfR bd no fu, tx, ln, bo, ss, ai, fi, op, dp, wr, wm, f1, f2, pm, ch1, sd, sm, pk, sv, sz, nI (sols E).length, hpz, pl1, sg1, wt1, bu1, hsh) ⟨⟨hg, rfl⟩, ⟨hP, rfl⟩, rfl, hT, ⟨hbo, hss⟩, ⟨l1, l2, l3, l4, l5⟩, ⟨hc1.1, a2, a3, a4, a5, a6, w2, w3, w1.1⟩⟩
  iterate 4 refine hX ?_
  refine And.intro (fun h => ?_) (fun h => ?_)
  · rw [tlK, if_pos h] at fin
    iterate 3 refine hX ?_
    exact fin
  · obtain ⟨kk, rfl, hkk, hkc⟩ := k_nat hk h
    rw [tlK, if_neg h, hkc] at fin
    iterate 3 refine hX ?_
    by_cases hlt : kk < g.length
    · rw [if_pos hlt] at fin
      refine And.intro (fun h => absurd ((nle (by omega) (by omega)).mp h) (by omega)) (fun _ => ?_)
      iterate 4 refine hX ?_
      refine And.intro (vp_in_nI (by rw [w1.1]; omega) (by rw [w1.1]; omega)) ?_
      rw [nI_clamp (by omega), brR_at w1 hlt]
      iterate 2 refine hX ?_
      exact fin
    · rw [if_neg hlt] at fin
      refine And.intro (fun _ => ?_) (fun h => absurd ((nle (by omega) (by omega)).mpr (by omega)) h)
      iterate 2 refine hX ?_
      exact fin
end MS
