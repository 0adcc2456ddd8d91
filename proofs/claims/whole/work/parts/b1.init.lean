/-! The model: its table of BODIES. -/
def okB (parts : Nat) : List Nat → Nat → Bool
  | [], o => decide (o = 0)
  | _ :: _, 0 => false
  | c :: r, o + 1 => decide (2 < c ∨ c ≤ parts) && okB parts r (o + arC c)
theorem okB_le {parts : Nat} : ∀ (r : List Nat) (o : Nat), okB parts r o = true → o ≤ r.length
  | [], o, h => by rw [okB, decide_eq_true_eq] at h; omega
  | c :: r, 0, h => by simp
  | c :: r, o + 1, h => by
    rw [okB, Bool.and_eq_true] at h
    have := okB_le r _ h.2
    rw [List.length_cons]
    omega
def allD : Nat → List (List Nat)
  | 0 => [[]]
  | n + 1 => [1, 2, 3, 4, 5, 6].flatMap fun c => (allD n).map (c :: ·)
theorem allD_ok : ∀ (n : Nat) (r : List Nat), r ∈ allD n → r.length = n ∧ ∀ c ∈ r, 1 ≤ c ∧ c ≤ 6
  | 0, r, h => by
    rw [allD, List.mem_singleton] at h
    subst h
    exact ⟨rfl, fun c hc => by simp at hc⟩
  | n + 1, r, h => by
    rw [allD, List.mem_flatMap] at h
    obtain ⟨c, hc, h⟩ := h
    rw [List.mem_map] at h
    obtain ⟨s, hs, rfl⟩ := h
    obtain ⟨i1, i2⟩ := allD_ok n s hs
    have key : ∀ c ∈ ([1, 2, 3, 4, 5, 6] : List Nat), 1 ≤ c ∧ c ≤ 6 := by decide
    exact ⟨by rw [List.length_cons, i1], fun d hd => by rcases List.mem_cons.mp hd with rfl | hd; exact key _ hc; exact i2 d hd⟩
theorem allD_filter {parts : Nat} : ∀ (n o : Nat), (n = 0 → o = 0) → (0 < n → 0 < o) → (allD n).filter (fun b => okB parts b o) = spF parts n o
  | 0, o, h, _ => by
    rw [h rfl]
    rfl
  | n + 1, 0, _, h => by have := h (by omega); omega
  | n + 1, o + 1, _, _ => by
    rw [allD, spF, List.filter_flatMap]
    congr 1
    funext c
    rw [List.filter_map, spC]
    have e : ((fun b => okB parts b (o + 1)) ∘ fun x => c :: x) = fun b => decide (2 < c ∨ c ≤ parts) && okB parts b (o + arC c) := by
      funext b
      rfl
    rw [e, Nat.add_sub_cancel]
    by_cases h1 : 2 < c ∨ c ≤ parts
    · have e2 : (fun b => decide (2 < c ∨ c ≤ parts) && okB parts b (o + arC c)) = fun b => okB parts b (o + arC c) := by
        funext b
        rw [decide_eq_true h1, Bool.true_and]
      rw [e2]
      by_cases h2 : (¬ (c ≤ 2 ∧ parts < c)) ∧ ¬ (o + arC c = 0 ∧ 1 < n + 1) ∧ o + arC c < n + 1
      · rw [if_pos h2, allD_filter n (o + arC c) (fun q => by omega) (fun q => by omega)]
      · rw [if_neg h2]
        have e3 : (allD n).filter (fun b => okB parts b (o + arC c)) = [] := by
          rw [List.filter_eq_nil_iff]
          intro b hb hk
          have hl := (allD_ok n b hb).1
          have hle := okB_le b _ hk
          by_cases h3 : o + arC c = 0
          · rw [h3] at hk
            cases b with
            | nil =>
              have hn0 : n = 0 := by simpa using hl.symm
              omega
            | cons d b => cases hk
          · omega
        rw [e3]
        rfl
    · have e2 : (fun b => decide (2 < c ∨ c ≤ parts) && okB parts b (o + arC c)) = fun _ => false := by
        funext b
        rw [decide_eq_false h1, Bool.false_and]
      rw [e2, if_neg (fun q => by omega), List.filter_eq_nil_iff.mpr (fun a _ => by simp)]
      rfl
/-- a code's figures, the lowest first -/
def dgs : Nat → Nat → List Nat
  | 0, _ => []
  | n + 1, code => (code % 6 + 1) :: dgs n (code / 6)
theorem dgs_ok : ∀ (n code : Nat), (dgs n code).length = n ∧ ∀ c ∈ dgs n code, 1 ≤ c ∧ c ≤ 6
  | 0, code => ⟨rfl, fun c hc => by simp [dgs] at hc⟩
  | n + 1, code => by
    obtain ⟨i1, i2⟩ := dgs_ok n (code / 6)
    refine ⟨by rw [dgs, List.length_cons, i1], fun c hc => ?_⟩
    rw [dgs, List.mem_cons] at hc
    rcases hc with rfl | hc
    · omega
    · exact i2 c hc
theorem allD_last : ∀ (n : Nat), allD (n + 1) = (allD n).flatMap fun b => [1, 2, 3, 4, 5, 6].map fun c => b ++ [c]
  | 0 => by decide
  | n + 1 => by
    have h1 : allD (n + 1 + 1) = [1, 2, 3, 4, 5, 6].flatMap fun c => (allD (n + 1)).map (c :: ·) := rfl
    have h2 : allD (n + 1) = [1, 2, 3, 4, 5, 6].flatMap fun c => (allD n).map (c :: ·) := rfl
    rw [h1]
    conv => rhs; rw [h2]
    rw [List.flatMap_assoc]
    congr 1
    funext c
    rw [allD_last n, List.map_flatMap, List.flatMap_map]
    congr 1
theorem range6 : ∀ (m : Nat), List.range (6 * m) = (List.range m).flatMap fun r => [0, 1, 2, 3, 4, 5].map fun d => 6 * r + d
  | 0 => rfl
  | m + 1 => by
    rw [List.range_succ, List.flatMap_append, ← range6 m, Nat.mul_succ, List.range_add]
    congr 1
theorem codes_all : ∀ (n : Nat), (List.range (6 ^ n)).map (fun code => (dgs n code).reverse) = allD n
  | 0 => rfl
  | n + 1 => by
    rw [Nat.pow_succ, Nat.mul_comm, range6, List.map_flatMap, allD_last, ← codes_all n, List.flatMap_map]
    congr 1
    funext r
    have key : ∀ d, d < 6 → (dgs (n + 1) (6 * r + d)).reverse = (dgs n r).reverse ++ [d + 1] := by
      intro d hd
      rw [dgs, List.reverse_cons, show (6 * r + d) % 6 = d by omega, show (6 * r + d) / 6 = r by omega]
    simp only [List.map_cons, List.map_nil]
    rw [key 0 (by omega), key 1 (by omega), key 2 (by omega), key 3 (by omega), key 4 (by omega), key 5 (by omega)]
def tbB (T : List (List Nat)) (bo : List Int32) : Prop := bo.length = 1822 ∧ T.length ≤ 1822 ∧ ∀ i, i < T.length → bo.getD i 0 = nI (wB (T.getD i []))
theorem tbB_push {T : List (List Nat)} {bo : List Int32} (h : tbB T bo) (hT : T.length < 1822) (b : List Nat) : tbB (T ++ [b]) (bo.set T.length (nI (wB b))) := by
  obtain ⟨h1, h2, h3⟩ := h
  refine ⟨by rw [List.length_set]; exact h1, by rw [List.length_append, List.length_singleton]; omega, fun i hi => ?_⟩
  rw [List.length_append, List.length_singleton] at hi
  by_cases e : T.length = i
  · subst e
    rw [getD_set_eq (by omega), getD_app2]
  · rw [getD_set_ne e, getD_app1 (by omega)]
    exact h3 i (by omega)
def ssR (m : Nat) (ss : List Int32) : Prop := ss.length = 22 ∧ ∀ i, i < m → ss.getD i 0 = nI (BTf (6 * (i / 7) + i % 7)).length
theorem ssR_push {m : Nat} {ss : List Int32} (h : ssR m ss) (hm : m < 22) {v : Nat} (hv : v = (BTf (6 * (m / 7) + m % 7)).length) : ssR (m + 1) (ss.set m (nI v)) := by
  obtain ⟨h1, h2⟩ := h
  refine ⟨by rw [List.length_set]; exact h1, fun i hi => ?_⟩
  by_cases e : m = i
  · subst e
    rw [getD_set_eq (by omega), hv]
  · rw [getD_set_ne e]
    exact h2 i (by omega)
section MK
variable {sc : List Int32} {X : pX} {B : pB} {Q : pQ} {nw fr pa rf tx bo ss op wr f1 f2 ch sd pk sv sz hpz pl sg bu : List Int32} {st ln ai fi dp wm pm sm vm wt : Int32} {hsh : Int64}
theorem m_signsOf_loop (hX : Cl sc X) {h : pH} {a0 : Int32} {n : Nat} (hn : n ≤ 6) : ∀ (r k left : Nat) (b : List Nat), k + r = n → b.length = k → (∀ c ∈ b, 1 ≤ c ∧ c ≤ 6) → left < 2147483648 → Q (some (.int (nI (wC (b ++ dgs r left))))) h → X B 119 7 [some (.int a0), some (.int (nI n)), some (.int (nI left)), some (.int (nI (wC b))), some (.int (nI k))] [] h Q := by
  intro r
  induction r with
  | zero =>
    intro k left b hk hb hb6 hl hq
    have : k = n := by omega
    subst this
    iterate 3 refine hX ?_
    refine And.intro (fun _ => ?_) (fun h => absurd (Int32.le_refl _) h)
    iterate 2 refine hX ?_
    rw [dgs, List.append_nil] at hq
    exact hq
  | succ r ih =>
    intro k left b hk hb hb6 hl hq
    rw [dgs] at hq
    have hwb := wC_lt b hb6
    rw [hb] at hwb
    iterate 3 refine hX ?_
    refine And.intro (fun h => absurd ((nle (by omega) (by omega)).mp h) (by omega)) (fun _ => ?_)
    iterate 4 refine hX ?_
    refine And.intro (by decide) ?_
    iterate 11 refine hX ?_
    refine And.intro (by decide) ?_
    iterate 3 refine hX ?_
    have hd : left % 6 < 6 := Nat.mod_lt _ (by omega)
    have hpow : 2 ^ (3 * k) ≤ 2 ^ 15 := Nat.pow_le_pow_right (by omega) (by omega)
    have e1 : nI left - nI left / 6 * 6 = nI (left % 6) := nrem (b := 6) hl (by omega) (by omega)
    have e2 : nI left / 6 = nI (left / 6) := ndiv (b := 6) hl (by omega) (by omega)
    have hmul : (left % 6 + 1) * 2 ^ (3 * k) < 4294967296 := by
      have : (left % 6 + 1) * 2 ^ (3 * k) ≤ 6 * 2 ^ 15 := Nat.mul_le_mul (by omega) hpow
      omega
    have e3 : nI (wC b) ||| (nI left - nI left / 6 * 6 + 1) <<< ((3 * nI k) &&& 31) = nI (wC (b ++ [left % 6 + 1])) := by
      rw [e1, show nI (left % 6) + 1 = nI (left % 6 + 1) from (nI_succ _).symm, show (3 : Int32) = nI 3 from rfl, nmul, nshl (by omega) hmul, nor, nat_or hwb, wC_app, hb]
      congr 2
      rw [wC, wC]
      rw [Nat.mul_comm]
    rw [e3, e2, show nI k + 1 = nI (k + 1) from (nI_succ k).symm]
    exact ih (k + 1) (left / 6) (b ++ [left % 6 + 1]) (by omega) (by rw [List.length_append, hb]; rfl) (fun c hc => by rcases List.mem_append.mp hc with hc | hc; exact hb6 c hc; rw [List.mem_singleton.mp hc]; omega) (by have := Nat.div_le_self left 6; omega) (by rw [List.append_assoc]; exact hq)
theorem m_signsOf (hX : Cl sc X) {h : pH} {n code : Nat} (hn : n ≤ 6) (hc : code < 2147483648) (hq : Q (some (.int (nI (wC (dgs n code))))) h) : X B 119 0 [some (.int (nI code)), some (.int (nI n)), none, none, none] [] h Q := by
  iterate 6 refine hX ?_
  exact m_signsOf_loop hX hn n 0 code [] (by omega) rfl (fun c hc => by simp at hc) hc hq
theorem m_isBody_no (hX : Cl sc X) (hB : 1 ≤ B.1) {h : pH} {b : List Nat} (hb : bOk b) {parts : Int32} (hq : Q (some (.int 0)) h) : ∀ (r k : Nat), k + r = b.length → ∀ (o : Int32) (l6 : Option Value), X B 121 8 [some (.int (nI (wB b))), some (.int (nI b.length)), some (.int parts), some (.int o), some (.int 0), some (.int (nI k)), l6] [] h Q := by
  have h6 := hb.1
  intro r
  induction r with
  | zero =>
    intro k hk o l6
    have : k = b.length := by omega
    subst this
    iterate 3 refine hX ?_
    refine And.intro (fun _ => ?_) (fun h => absurd (Int32.le_refl _) h)
    iterate 2 refine hX ?_
    refine And.intro (fun _ => ?_) (fun h => absurd rfl h)
    iterate 2 refine hX ?_
    exact And.intro (Or.inl rfl) hq
  | succ r ih =>
    intro k hk o l6
    have hbd := (bOk_dig hb k)
    iterate 3 refine hX ?_
    refine And.intro (fun h => absurd ((nle (by omega) (by omega)).mp h) (by omega)) (fun _ => ?_)
    iterate 4 refine hX ?_
    refine cP [] [.int (nI (wB b)), .int (nI b.length), .int (nI k)] [] (some (.int (nI (b.getD k 0)))) [.int (nI (b.getD k 0))] (by omega) rfl rfl rfl rfl (fun Q' hQ' => m_signAt hX hb (by omega) hQ') ?_
    iterate 3 refine hX ?_
    refine And.intro (fun _ => ?_) (fun h => absurd rfl h)
    iterate 6 refine hX ?_
    have fin : ∀ v : Int32, X B 121 74 [some (.int (nI (wB b))), some (.int (nI b.length)), some (.int parts), some (.int o), some (.int 0), some (.int (nI k)), some (.int (nI (b.getD k 0)))] [.int v, .int o] h Q := by
      intro v
      iterate 4 refine hX ?_
      rw [show nI k + 1 = nI (k + 1) from (nI_succ k).symm]
      exact ih (k + 1) (by omega) _ _
    refine And.intro (fun _ => ?_) (fun _ => ?_)
    · iterate 2 refine hX ?_
      exact fin 1
    · iterate 3 refine hX ?_
      refine And.intro (fun _ => ?_) (fun _ => ?_)
      · iterate 2 refine hX ?_
        exact fin 0
      · refine hX ?_
        exact fin (-1)
theorem m_isBody_loop (hX : Cl sc X) (hB : 1 ≤ B.1) {h : pH} {b : List Nat} (hb : bOk b) {parts : Nat} (hp : parts ≤ 2) : ∀ (y : List Nat) (k o : Nat) (l6 : Option Value), b.drop k = y → k ≤ b.length → o ≤ 10 → Q (some (.int (if okB parts y o then 1 else 0))) h → o + y.length ≤ 10 → X B 121 8 [some (.int (nI (wB b))), some (.int (nI b.length)), some (.int (nI parts)), some (.int (nI o)), some (.int 1), some (.int (nI k)), l6] [] h Q := by
  have h6 := hb.1
  intro y
  induction y with
  | nil =>
    intro k o l6 hy hk ho hq _
    have hk2 : k = b.length := by have := congrArg List.length hy; rw [List.length_drop] at this; simp at this; omega
    subst hk2
    iterate 3 refine hX ?_
    refine And.intro (fun _ => ?_) (fun h => absurd (Int32.le_refl _) h)
    iterate 2 refine hX ?_
    refine And.intro (fun h => absurd h (by decide)) (fun _ => ?_)
    iterate 2 refine hX ?_
    refine And.intro (fun h => ?_) (fun h => ?_)
    · have h0 : o = 0 := (neq (b := 0) (by omega) (by omega)).mp h
      subst h0
      iterate 3 refine hX ?_
      exact And.intro (Or.inr rfl) hq
    · have h0 : ¬ o = 0 := fun q => h (by rw [q]; rfl)
      have e : okB parts [] o = false := by rw [okB, decide_eq_false h0]
      rw [e] at hq
      iterate 2 refine hX ?_
      exact And.intro (Or.inl rfl) hq
  | cons c y ih =>
    intro k o l6 hy hk ho hq hoy
    have hkl : k < b.length := by have := congrArg List.length hy; rw [List.length_drop, List.length_cons] at this; omega
    have hc : b.getD k 0 = c := by
      have : (b.drop k).getD 0 0 = c := by rw [hy]; rfl
      rw [List.getD_eq_getElem?_getD, List.getElem?_drop] at this
      rw [List.getD_eq_getElem?_getD]
      exact this
    have hy2 : b.drop (k + 1) = y := by rw [← List.drop_drop, hy]; rfl
    obtain ⟨hd1, hd2⟩ := bOk_dig hb k
    have hd3 := hd2 hkl
    rw [hc] at hd1 hd3
    rw [List.length_cons] at hoy
    have key : ∀ z : Int32, (z = 0 → ¬ (0 < o ∧ (2 < c ∨ c ≤ parts))) → (z = 0 ∨ z = 1) → (z = 1 → 0 < o ∧ (2 < c ∨ c ≤ parts)) → X B 121 49 [some (.int (nI (wB b))), some (.int (nI b.length)), some (.int (nI parts)), some (.int (nI o)), some (.int 1), some (.int (nI k)), some (.int (nI c))] [.int z] h Q := by
      intro z hz0 hz hz1
      iterate 5 refine hX ?_
      have fin : ∀ v : Int32, (0 < o → nI o + v = nI (o - 1 + arC c)) → X B 121 74 [some (.int (nI (wB b))), some (.int (nI b.length)), some (.int (nI parts)), some (.int (nI o)), some (.int z), some (.int (nI k)), some (.int (nI c))] [.int v, .int (nI o)] h Q := by
        intro v hv
        iterate 4 refine hX ?_
        rw [show nI k + 1 = nI (k + 1) from (nI_succ k).symm]
        rcases hz with rfl | rfl
        · have hno := hz0 rfl
          have e : okB parts (c :: y) o = false := by
            cases o with
            | zero => rfl
            | succ o =>
              rw [okB, decide_eq_false (fun q => hno ⟨by omega, q⟩), Bool.false_and]
          rw [e] at hq
          exact m_isBody_no hX hB hb hq (b.length - (k + 1)) (k + 1) (by omega) _ _
        · obtain ⟨ho0, hyes⟩ := hz1 rfl
          rw [hv ho0]
          have e : okB parts (c :: y) o = okB parts y (o - 1 + arC c) := by
            cases o with
            | zero => omega
            | succ o => rw [okB, decide_eq_true hyes, Bool.true_and, Nat.add_sub_cancel]
          rw [e] at hq
          have har : arC c ≤ 2 := by rw [arC]; split; omega; split <;> omega
          exact ih (k + 1) (o - 1 + arC c) _ hy2 (by omega) (by omega) hq (by omega)
      refine And.intro (fun h => ?_) (fun h => ?_)
      · have h6' : c = 6 := (neq (b := 6) (by omega) (by omega)).mp h
        iterate 2 refine hX ?_
        refine fin 1 (fun h0 => ?_)
        subst h6'
        rw [show nI o + 1 = nI (o + 1) from (nI_succ o).symm, show arC 6 = 2 from rfl]
        congr 1
        omega
      · have h6' : ¬ c = 6 := fun q => h (by rw [q]; rfl)
        iterate 3 refine hX ?_
        refine And.intro (fun h5 => ?_) (fun h5 => ?_)
        · have h5' : c = 5 := (neq (b := 5) (by omega) (by omega)).mp h5
          iterate 2 refine hX ?_
          refine fin 0 (fun h0 => ?_)
          subst h5'
          rw [show nI o + 0 = nI o from nadd o 0, show arC 5 = 1 from rfl]
          congr 1
          omega
        · have h5' : ¬ c = 5 := fun q => h5 (by rw [q]; rfl)
          refine hX ?_
          refine fin (-1) (fun h0 => ?_)
          rw [show arC c = 0 by rw [arC, if_neg h5', if_neg h6'], Nat.add_zero]
          obtain ⟨o', rfl⟩ : ∃ o', o = o' + 1 := ⟨o - 1, by omega⟩
          rw [nI_predA]
          rfl
    iterate 3 refine hX ?_
    refine And.intro (fun h => absurd ((nle (by omega) (by omega)).mp h) (by omega)) (fun _ => ?_)
    iterate 4 refine hX ?_
    refine cP [] [.int (nI (wB b)), .int (nI b.length), .int (nI k)] [] (some (.int (nI (b.getD k 0)))) [.int (nI (b.getD k 0))] (by omega) rfl rfl rfl rfl (fun Q' hQ' => m_signAt hX hb (by omega) hQ') ?_
    rw [hc]
    iterate 3 refine hX ?_
    refine And.intro (fun h => absurd h (by decide)) (fun _ => ?_)
    iterate 2 refine hX ?_
    refine And.intro (fun h => ?_) (fun h => ?_)
    · have h0 := (nle (b := 0) (by omega) (by omega)).mp h
      refine hX ?_
      exact key 0 (fun _ q => by omega) (Or.inl rfl) (fun q => by cases q)
    · have h0 : ¬ o ≤ 0 := fun q => h ((nle (b := 0) (by omega) (by omega)).mpr q)
      iterate 3 refine hX ?_
      refine And.intro (fun h1 => ?_) (fun h1 => ?_)
      · have h1' := (nlt (a := 2) (by omega) (by omega)).mp h1
        iterate 2 refine hX ?_
        exact key 1 (fun q => by cases q) (Or.inr rfl) (fun _ => ⟨by omega, Or.inl h1'⟩)
      · have h1' : ¬ 2 < c := fun q => h1 ((nlt (a := 2) (by omega) (by omega)).mpr q)
        iterate 3 refine hX ?_
        refine And.intro (fun h2 => ?_) (fun h2 => ?_)
        · have h2' := (nlt (by omega) (by omega)).mp h2
          refine hX ?_
          exact key 0 (fun _ q => by omega) (Or.inl rfl) (fun q => by cases q)
        · have h2' : ¬ parts < c := fun q => h2 ((nlt (by omega) (by omega)).mpr q)
          iterate 2 refine hX ?_
          exact key 1 (fun q => by cases q) (Or.inr rfl) (fun _ => ⟨by omega, Or.inr (by omega)⟩)
theorem m_isBody (hX : Cl sc X) (hB : 1 ≤ B.1) {h : pH} {b : List Nat} (hb : bOk b) {parts : Nat} (hp : parts ≤ 2) (hq : Q (some (.int (if okB parts b 1 then 1 else 0))) h) : X B 121 0 [some (.int (nI (wB b))), some (.int (nI b.length)), some (.int (nI parts)), none, none, none, none] [] h Q := by
  iterate 6 refine hX ?_
  have := hb.1
  exact m_isBody_loop hX hB hb hp b 0 1 none rfl (Nat.zero_le _) (by omega) hq (by omega)
theorem m_init3 (hX : Cl sc X) (hB : 2 ≤ B.1) {p s N : Nat} (hp : p ≤ 2) (hs : s ≤ 6) (hN : N ≤ 46656) :
    ∀ (r k : Nat), k + r = N → ∀ (T : List (List Nat)) (bo : List Int32) (l6 : Option Value), tbB T bo → T.length + (((List.range' k r).map fun code => (dgs s code).reverse).filter fun b => okB p b 1).length ≤ 1822 → (∀ bo' l6', tbB (T ++ ((List.range' k r).map fun code => (dgs s code).reverse).filter fun b => okB p b 1) bo' → X B 114 257 [some (.ref 0), some (.int (nI (T ++ ((List.range' k r).map fun code => (dgs s code).reverse).filter fun b => okB p b 1).length)), some (.int (nI p)), some (.int (nI N)), some (.int (nI s)), some (.int (nI N)), l6'] [] (MW nw fr pa st rf tx ln bo' ss ai fi op dp wr wm f1 f2 pm ch sd sm pk sv sz vm hpz pl sg wt bu hsh) Q) → X B 114 214 [some (.ref 0), some (.int (nI T.length)), some (.int (nI p)), some (.int (nI N)), some (.int (nI s)), some (.int (nI k)), l6] [] (MW nw fr pa st rf tx ln bo ss ai fi op dp wr wm f1 f2 pm ch sd sm pk sv sz vm hpz pl sg wt bu hsh) Q := by
  intro r
  induction r with
  | zero =>
    intro k hk T bo l6 hT hlen hq
    have : k = N := by omega
    subst this
    iterate 3 refine hX ?_
    refine And.intro (fun _ => ?_) (fun h => absurd (Int32.le_refl _) h)
    simp only [List.range'_zero, List.map_nil, List.filter_nil, List.append_nil] at hq
    exact hq bo l6 hT
  | succ r ih =>
    intro k hk T bo l6 hT hlen hq
    rw [List.range'_succ, List.map_cons] at hlen hq
    obtain ⟨dl, d6⟩ := dgs_ok s k
    have hbb : bOk (dgs s k).reverse := bOk_rev ⟨by omega, d6⟩
    have hw : wC (dgs s k) = wB (dgs s k).reverse := by rw [wB, List.reverse_reverse]
    have hl : (dgs s k).reverse.length = s := by rw [List.length_reverse, dl]
    have hw18 := wC_lt18 (bOk_rev hbb)
    iterate 3 refine hX ?_
    refine And.intro (fun h => absurd ((nle (by omega) (by omega)).mp h) (by omega)) (fun _ => ?_)
    iterate 3 refine hX ?_
    refine cP [] [.int (nI k), .int (nI s)] [] (some (.int (nI (wC (dgs s k))))) [.int (nI (wC (dgs s k)))] (by omega) rfl rfl rfl rfl (fun Q' hQ' => m_signsOf hX hs (by omega) hQ') ?_
    rw [hw]
    iterate 5 refine hX ?_
    refine cP [] [.int (nI (wB (dgs s k).reverse)), .int (nI s), .int (nI p)] [] (some (.int (if okB p (dgs s k).reverse 1 then 1 else 0))) [.int (if okB p (dgs s k).reverse 1 then 1 else 0)] (by omega) rfl rfl rfl rfl (fun Q' hQ' => by
      have := m_isBody (B := (B.1 - 1, 0, 0)) (h := []) hX (by show 1 ≤ B.1 - 1; omega) hbb hp hQ'
      rw [hl] at this
      exact this) ?_
    generalize hbd : (dgs s k).reverse = b at hlen hq hbb
    by_cases hok : okB p b 1 = true
    · rw [List.filter_cons_of_pos (p := fun b => okB p b 1) hok] at hlen hq
      rw [hok, if_pos rfl]
      rw [List.length_cons] at hlen
      refine hX (And.intro (fun h => absurd h (by decide)) (fun _ => ?_))
      iterate 5 refine hX ?_
      refine And.intro (vp_in_nI (by rw [hT.1]; omega) (by rw [hT.1]; omega)) ?_
      rw [nI_clamp (by omega)]
      iterate 3 refine hX ?_
      rw [show nI T.length + 1 = nI (T ++ [b]).length by rw [List.length_append, List.length_singleton, nI_succ], show nI k + 1 = nI (k + 1) from (nI_succ k).symm]
      exact ih (k + 1) (by omega) (T ++ [b]) _ _ (tbB_push hT (by omega) b) (by rw [List.length_append, List.length_singleton]; omega) (fun bo' l6' h => by
        rw [List.append_assoc] at h ⊢
        exact hq bo' l6' h)
    · rw [List.filter_cons_of_neg (p := fun b => okB p b 1) hok] at hlen hq
      rw [if_neg hok]
      refine hX (And.intro (fun _ => ?_) (fun h => absurd rfl h))
      iterate 2 refine hX ?_
      rw [show nI k + 1 = nI (k + 1) from (nI_succ k).symm]
      exact ih (k + 1) (by omega) T bo _ hT hlen hq
theorem m_init2 (hX : Cl sc X) (hB : 2 ≤ B.1) {p : Nat} (hp : p ≤ 2) (hq : ∀ bo' ss' l3 l4 l5 l6, tbB (BTf (6 * p + 6)) bo' → ssR (7 * p + 7) ss' → X B 114 276 [some (.ref 0), some (.int (nI (BTf (6 * p + 6)).length)), some (.int (nI p)), l3, l4, l5, l6] [] (MW nw fr pa st rf tx ln bo' ss' ai fi op dp wr wm f1 f2 pm ch sd sm pk sv sz vm hpz pl sg wt bu hsh) Q) :
    ∀ (r s : Nat), s + r = 7 → 1 ≤ s → ∀ (bo ss : List Int32) (l5 l6 : Option Value), tbB (BTf (6 * p + s - 1)) bo → ssR (7 * p + s - 1) ss → X B 114 184 [some (.ref 0), some (.int (nI (BTf (6 * p + s - 1)).length)), some (.int (nI p)), some (.int (nI (6 ^ (s - 1)))), some (.int (nI s)), l5, l6] [] (MW nw fr pa st rf tx ln bo ss ai fi op dp wr wm f1 f2 pm ch sd sm pk sv sz vm hpz pl sg wt bu hsh) Q := by
  intro r
  induction r with
  | zero =>
    intro s hs h1 bo ss l5 l6 hT hS
    have : s = 7 := by omega
    subst this
    rw [show 6 * p + 7 - 1 = 6 * p + 6 by omega] at hT ⊢
    rw [show 7 * p + 7 - 1 = 7 * p + 6 by omega] at hS
    iterate 3 refine hX ?_
    refine And.intro (fun _ => ?_) (fun h => absurd (by decide) h)
    iterate 9 refine hX ?_
    rw [show (7 : Int32) * nI p + 6 = nI (7 * p + 6) by rw [show (7 : Int32) = nI 7 from rfl, nmul, show (6 : Int32) = nI 6 from rfl, nadd]]
    refine And.intro (vp_in_nI (by rw [hS.1]; omega) (by rw [hS.1]; omega)) ?_
    rw [nI_clamp (by omega)]
    exact hq bo _ _ _ _ _ hT (ssR_push hS (by omega) (by rw [show (7 * p + 6) / 7 = p by omega, show (7 * p + 6) % 7 = 6 by omega]))
  | succ r ih =>
    intro s hs h1 bo ss l5 l6 hT hS
    have hpow : 6 ^ s ≤ 6 ^ 6 := Nat.pow_le_pow_right (by omega) (by omega)
    have h66 : 6 ^ 6 = 46656 := by decide
    have e6 : 6 ^ (s - 1) * 6 = 6 ^ s := by rw [← Nat.pow_succ]; congr 1; omega
    have hle : (BTf (6 * p + s)).length ≤ 1822 := BTf_le (by omega)
    have hbt : BTf (6 * p + s) = BTf (6 * p + s - 1) ++ spF p s 1 := by
      have := BTf_succ (6 * p + s - 1)
      rw [show 6 * p + s - 1 + 1 = 6 * p + s by omega, show (6 * p + s - 1) / 6 = p by omega, show (6 * p + s - 1) % 6 + 1 = s by omega] at this
      exact this
    have hlast := BTf_le (k := 6 * p + s - 1) (by omega)
    iterate 3 refine hX ?_
    refine And.intro (fun h => absurd ((nlt (a := 6) (by omega) (by omega)).mp h) (by omega)) (fun _ => ?_)
    iterate 11 refine hX ?_
    rw [show (7 : Int32) * nI p + nI s - 1 = nI (7 * p + s - 1) by rw [show (7 : Int32) = nI 7 from rfl, nmul, nadd]; exact nsub (b := 1) (by omega)]
    refine And.intro (vp_in_nI (by rw [hS.1]; omega) (by rw [hS.1]; omega)) ?_
    rw [nI_clamp (by omega)]
    iterate 6 refine hX ?_
    rw [show nI (6 ^ (s - 1)) * 6 = nI (6 ^ s) by rw [show (6 : Int32) = nI 6 from rfl, nmul, e6]]
    have hcod : (((List.range' 0 (6 ^ s)).map fun code => (dgs s code).reverse).filter fun b => okB p b 1) = spF p s 1 := by
      rw [← List.range_eq_range', codes_all, allD_filter s 1 (fun q => by omega) (fun _ => by omega)]
    refine m_init3 hX hB (p := p) (s := s) (N := 6 ^ s) hp (by omega) (by omega) (6 ^ s) 0 (by omega) (BTf (6 * p + s - 1)) bo l6 hT (by rw [hcod, ← List.length_append, ← hbt]; exact hle) (fun bo' l6' hT' => ?_)
    rw [hcod, ← hbt] at hT' ⊢
    iterate 2 refine hX ?_
    rw [show nI s + 1 = nI (s + 1) from (nI_succ s).symm]
    have := ih (s + 1) (by omega) (by omega) bo' (ss.set (7 * p + s - 1) (nI (BTf (6 * p + s - 1)).length)) (some (.int (nI (6 ^ s)))) l6' (by rw [show 6 * p + (s + 1) - 1 = 6 * p + s by omega]; exact hT') (by
      have := ssR_push hS (by omega) (v := (BTf (6 * p + s - 1)).length) (by rw [show (7 * p + s - 1) / 7 = p by omega, show (7 * p + s - 1) % 7 = s - 1 by omega]; congr 2; omega)
      rw [show 7 * p + s - 1 + 1 = 7 * p + (s + 1) - 1 by omega] at this
      exact this)
    rw [show 6 * p + (s + 1) - 1 = 6 * p + s by omega, Nat.add_sub_cancel] at this
    exact this
theorem m_init1 (hX : Cl sc X) (hB : 2 ≤ B.1) (hq : ∀ bo' ss', tbB (BTf 18) bo' → ssR 21 ss' → Q none (MW nw fr pa st rf tx ln bo' ss' ai fi op dp wr wm f1 f2 pm ch sd sm pk sv sz vm hpz pl sg wt bu hsh)) :
    ∀ (r p : Nat), p + r = 3 → ∀ (bo ss : List Int32) (l3 l4 l5 l6 : Option Value), tbB (BTf (6 * p)) bo → ssR (7 * p) ss → X B 114 174 [some (.ref 0), some (.int (nI (BTf (6 * p)).length)), some (.int (nI p)), l3, l4, l5, l6] [] (MW nw fr pa st rf tx ln bo ss ai fi op dp wr wm f1 f2 pm ch sd sm pk sv sz vm hpz pl sg wt bu hsh) Q := by
  intro r
  induction r with
  | zero =>
    intro p hp bo ss l3 l4 l5 l6 hT hS
    have : p = 3 := by omega
    subst this
    iterate 3 refine hX ?_
    refine And.intro (fun _ => ?_) (fun h => absurd (by decide) h)
    refine hX ?_
    exact hq bo ss hT hS
  | succ r ih =>
    intro p hp bo ss l3 l4 l5 l6 hT hS
    iterate 3 refine hX ?_
    refine And.intro (fun h => absurd ((nle (a := 3) (by omega) (by omega)).mp h) (by omega)) (fun _ => ?_)
    iterate 4 refine hX ?_
    have := m_init2 (B := B) (Q := Q) hX hB (p := p) (by omega) (fun bo' ss' l3 l4 l5 l6 hT' hS' => by
      iterate 2 refine hX ?_
      rw [show nI p + 1 = nI (p + 1) from (nI_succ p).symm]
      have := ih (p + 1) (by omega) bo' ss' l3 l4 l5 l6 (by rw [show 6 * (p + 1) = 6 * p + 6 by omega]; exact hT') (by rw [show 7 * (p + 1) = 7 * p + 7 by omega]; exact hS')
      rw [show 6 * (p + 1) = 6 * p + 6 by omega] at this
      exact this) 6 1 (by omega) (by omega) bo ss l5 l6 (by rw [Nat.add_sub_cancel]; exact hT) (by rw [Nat.add_sub_cancel]; exact hS)
    rw [Nat.add_sub_cancel] at this
    exact this
theorem m_Model (hX : Cl sc X) (hB : 3 ≤ B.1 ∧ 20 ≤ B.2.1 ∧ 3945 ≤ B.2.2) (hq : ∀ bo ss, tbB (BTf 18) bo → ssR 21 ss → Q none (MW (List.replicate 49 0) (List.replicate 49 0) (List.replicate 245 0) 0 (List.replicate 3 0) (List.replicate 120 0) 0 bo ss 0 0 (List.replicate 41 0) 0 (List.replicate 200 0) 0 (List.replicate 24 0) (List.replicate 24 0) 0 (List.replicate 6 0) (List.replicate 6 0) 0 (List.replicate 6 0) (List.replicate 240 0) (List.replicate 40 0) 0 (List.replicate 48 0) (List.replicate 300 0) (List.replicate 300 0) 0 (List.replicate 400 0) 0)) : X B 114 0 [some (.ref 0), none, none, none, none, none, none] [] [.inr (11, [.null, .null, .null, .int 0, .null, .null, .int 0, .null, .null, .int 0, .int 0, .null, .int 0, .null, .int 0, .null, .null, .int 0, .null, .null, .int 0, .null, .null, .null, .int 0, .null, .null, .null, .int 0, .null, .long 0])] Q := by
  obtain ⟨b1, b2, b3⟩ := hB
  iterate 2 refine hX ?_
  refine And.intro ⟨by omega, Nat.le_of_ble_eq_true rfl⟩ ?_
  iterate 3 refine hX ?_
  refine And.intro (by decide) (And.intro ⟨by decide, by show 1 ≤ B.2.1; omega, by show 49 ≤ B.2.2; omega⟩ ?_)
  iterate 4 refine hX ?_
  refine And.intro (by decide) (And.intro ⟨by decide, by show 1 ≤ B.2.1 - 1; omega, by show 49 ≤ B.2.2 - 49; omega⟩ ?_)
  iterate 4 refine hX ?_
  refine And.intro (by decide) (And.intro ⟨by decide, by show 1 ≤ B.2.1 - 1 - 1; omega, by show 245 ≤ B.2.2 - 49 - 49; omega⟩ ?_)
  iterate 4 refine hX ?_
  refine And.intro (by decide) (And.intro ⟨by decide, by show 1 ≤ B.2.1 - 1 - 1 - 1; omega, by show 3 ≤ B.2.2 - 49 - 49 - 245; omega⟩ ?_)
  iterate 4 refine hX ?_
  refine And.intro (by decide) (And.intro ⟨by decide, by show 1 ≤ B.2.1 - 1 - 1 - 1 - 1; omega, by show 120 ≤ B.2.2 - 49 - 49 - 245 - 3; omega⟩ ?_)
  iterate 4 refine hX ?_
  refine And.intro (by decide) (And.intro ⟨by decide, by show 1 ≤ B.2.1 - 1 - 1 - 1 - 1 - 1; omega, by show 1822 ≤ B.2.2 - 49 - 49 - 245 - 3 - 120; omega⟩ ?_)
  iterate 4 refine hX ?_
  refine And.intro (by decide) (And.intro ⟨by decide, by show 1 ≤ B.2.1 - 1 - 1 - 1 - 1 - 1 - 1; omega, by show 22 ≤ B.2.2 - 49 - 49 - 245 - 3 - 120 - 1822; omega⟩ ?_)
  iterate 4 refine hX ?_
  refine And.intro (by decide) (And.intro ⟨by decide, by show 1 ≤ B.2.1 - 1 - 1 - 1 - 1 - 1 - 1 - 1; omega, by show 41 ≤ B.2.2 - 49 - 49 - 245 - 3 - 120 - 1822 - 22; omega⟩ ?_)
  iterate 4 refine hX ?_
  refine And.intro (by decide) (And.intro ⟨by decide, by show 1 ≤ B.2.1 - 1 - 1 - 1 - 1 - 1 - 1 - 1 - 1; omega, by show 200 ≤ B.2.2 - 49 - 49 - 245 - 3 - 120 - 1822 - 22 - 41; omega⟩ ?_)
  iterate 4 refine hX ?_
  refine And.intro (by decide) (And.intro ⟨by decide, by show 1 ≤ B.2.1 - 1 - 1 - 1 - 1 - 1 - 1 - 1 - 1 - 1; omega, by show 24 ≤ B.2.2 - 49 - 49 - 245 - 3 - 120 - 1822 - 22 - 41 - 200; omega⟩ ?_)
  iterate 4 refine hX ?_
  refine And.intro (by decide) (And.intro ⟨by decide, by show 1 ≤ B.2.1 - 1 - 1 - 1 - 1 - 1 - 1 - 1 - 1 - 1 - 1; omega, by show 24 ≤ B.2.2 - 49 - 49 - 245 - 3 - 120 - 1822 - 22 - 41 - 200 - 24; omega⟩ ?_)
  iterate 4 refine hX ?_
  refine And.intro (by decide) (And.intro ⟨by decide, by show 1 ≤ B.2.1 - 1 - 1 - 1 - 1 - 1 - 1 - 1 - 1 - 1 - 1 - 1; omega, by show 6 ≤ B.2.2 - 49 - 49 - 245 - 3 - 120 - 1822 - 22 - 41 - 200 - 24 - 24; omega⟩ ?_)
  iterate 4 refine hX ?_
  refine And.intro (by decide) (And.intro ⟨by decide, by show 1 ≤ B.2.1 - 1 - 1 - 1 - 1 - 1 - 1 - 1 - 1 - 1 - 1 - 1 - 1; omega, by show 6 ≤ B.2.2 - 49 - 49 - 245 - 3 - 120 - 1822 - 22 - 41 - 200 - 24 - 24 - 6; omega⟩ ?_)
  iterate 4 refine hX ?_
  refine And.intro (by decide) (And.intro ⟨by decide, by show 1 ≤ B.2.1 - 1 - 1 - 1 - 1 - 1 - 1 - 1 - 1 - 1 - 1 - 1 - 1 - 1; omega, by show 6 ≤ B.2.2 - 49 - 49 - 245 - 3 - 120 - 1822 - 22 - 41 - 200 - 24 - 24 - 6 - 6; omega⟩ ?_)
  iterate 4 refine hX ?_
  refine And.intro (by decide) (And.intro ⟨by decide, by show 1 ≤ B.2.1 - 1 - 1 - 1 - 1 - 1 - 1 - 1 - 1 - 1 - 1 - 1 - 1 - 1 - 1; omega, by show 240 ≤ B.2.2 - 49 - 49 - 245 - 3 - 120 - 1822 - 22 - 41 - 200 - 24 - 24 - 6 - 6 - 6; omega⟩ ?_)
  iterate 4 refine hX ?_
  refine And.intro (by decide) (And.intro ⟨by decide, by show 1 ≤ B.2.1 - 1 - 1 - 1 - 1 - 1 - 1 - 1 - 1 - 1 - 1 - 1 - 1 - 1 - 1 - 1; omega, by show 40 ≤ B.2.2 - 49 - 49 - 245 - 3 - 120 - 1822 - 22 - 41 - 200 - 24 - 24 - 6 - 6 - 6 - 240; omega⟩ ?_)
  iterate 4 refine hX ?_
  refine And.intro (by decide) (And.intro ⟨by decide, by show 1 ≤ B.2.1 - 1 - 1 - 1 - 1 - 1 - 1 - 1 - 1 - 1 - 1 - 1 - 1 - 1 - 1 - 1 - 1; omega, by show 48 ≤ B.2.2 - 49 - 49 - 245 - 3 - 120 - 1822 - 22 - 41 - 200 - 24 - 24 - 6 - 6 - 6 - 240 - 40; omega⟩ ?_)
  iterate 4 refine hX ?_
  refine And.intro (by decide) (And.intro ⟨by decide, by show 1 ≤ B.2.1 - 1 - 1 - 1 - 1 - 1 - 1 - 1 - 1 - 1 - 1 - 1 - 1 - 1 - 1 - 1 - 1 - 1; omega, by show 300 ≤ B.2.2 - 49 - 49 - 245 - 3 - 120 - 1822 - 22 - 41 - 200 - 24 - 24 - 6 - 6 - 6 - 240 - 40 - 48; omega⟩ ?_)
  iterate 4 refine hX ?_
  refine And.intro (by decide) (And.intro ⟨by decide, by show 1 ≤ B.2.1 - 1 - 1 - 1 - 1 - 1 - 1 - 1 - 1 - 1 - 1 - 1 - 1 - 1 - 1 - 1 - 1 - 1 - 1; omega, by show 300 ≤ B.2.2 - 49 - 49 - 245 - 3 - 120 - 1822 - 22 - 41 - 200 - 24 - 24 - 6 - 6 - 6 - 240 - 40 - 48 - 300; omega⟩ ?_)
  iterate 4 refine hX ?_
  refine And.intro (by decide) (And.intro ⟨by decide, by show 1 ≤ B.2.1 - 1 - 1 - 1 - 1 - 1 - 1 - 1 - 1 - 1 - 1 - 1 - 1 - 1 - 1 - 1 - 1 - 1 - 1 - 1; omega, by show 400 ≤ B.2.2 - 49 - 49 - 245 - 3 - 120 - 1822 - 22 - 41 - 200 - 24 - 24 - 6 - 6 - 6 - 240 - 40 - 48 - 300 - 300; omega⟩ ?_)
  iterate 5 refine hX ?_
  exact m_init1 hX (by show 2 ≤ B.1; omega) hq 3 0 rfl (List.replicate 1822 0) (List.replicate 22 0) none none none none ⟨List.length_replicate, by decide +kernel, fun i hi => by have : (BTf (6 * 0)).length = 0 := rfl; omega⟩ ⟨List.length_replicate, fun i hi => by omega⟩
end MK
