/-! What it is that the pure machine's states say of the machine. -/
abbrev clsP : List vw_C := [(RX0, TX0, 3), (RX1, TX1, 4), (RX2, TX2, 7), (RX3, TX3, 8), (RX4, TX4, 2), (RX0, TX0, 3), (RX6, TX6, 4), (RX7, TX7, 10), (RX8, TX8, 5), (RX9, TX9, 4), (RX10, TX10, 12), (RX11, TX11, 31)]
def tyP : Nat → Nat → FieldType := fun c => match c with
  | 0 => tyX0 | 1 => tyX1 | 2 => tyX2 | 3 => tyX3 | 4 => tyX4 | 5 => tyX5 | 6 => tyX6 | 7 => tyX7 | 8 => tyX8 | 9 => tyX9 | 10 => tyX10 | _ => tyX11
def lw_good : List Cond := lw_tbl.filter goodWord
abbrev pTys (cI cO : ClassId) : List (ClassId × FieldType) := [(cI, .int), (cO, .object RX2)]
/-- the class's texts -/
def lw_nest : List (String × Nat × MethodName) := [(RX10, 18, yX2_init), (RX10, 67, yX9_init), (RX10, 9, yX8_init), (RX2, 40, yX10_isSide), (RX4, 15, yX2_init)]
def pNest (s : State) : Prop := (∀ q ∈ lw_nest, va_Nw (.methodLinkNest q.1 q.2.1 q.2.2 RX10) s) ∧ va_AO RX2 s ∧ va_Nw (.castable "[I" "java/lang/Cloneable") s
/-- the statics of the JDK that a text's methods read -/
def pStat (A : Nat → Prop) (s : State) (H : Heap) : Prop := va_Z "java/lang/String" "COMPACT_STRINGS" "Z" (.int 1) A s H ∧ va_Zq "jdk/internal/util/Preconditions" "SIOOBE_FORMATTER" "Ljava/util/function/BiFunction;" A s H
def pExt (adK adV : Nat → Nat) (A : Nat → Prop) (s : State) : Prop := pNest s ∧ (vk_R RX0 28 "12abfg" (adK 0) s ∧ vk_R RX1 28 "a" (adK 1) s ∧ vk_R RX1 40 "b" (adK 2) s ∧ vk_R RX1 42 "f1" (adK 3) s ∧ vk_R RX1 44 "g12" (adK 4) s) ∧ vk_S 5 [6, 1, 1, 2, 3] pTx adK adV A s s.heap ∧ pStat A s s.heap
def pSa (adK : Nat → Nat) (b : Nat) : Nat → Option Nat := fun k => if k < 5 then some (adK k) else if k = 7 then some b else none
/-- a method: its name, its bytes, its locals, its answer -/
abbrev pM : Type := MethodName × ByteArray × Nat × Option FieldType
/-- what doesn't change while a method runs -/
def pCtx (l : Launch) (D : va_G) (cI cO : ClassId) (adK adV : Nat → Nat) (M : pM) (p : Program) (s : State) (m : MethodId) (args : Array Value) (meth : Method) (c : Code) (A : Nat → Prop) : Prop :=
  p.tables.exec = Jvm.exec ∧ c.code = M.2.1 ∧ c.maxLocals = M.2.2.1 ∧ s.vm.findClass M.1.cls = some m.cls ∧ (∀ w ∈ lw_good, w.before args s = true) ∧ va_K D clsP (pTys cI cO) s ∧ meth.name = M.1.name ∧ meth.sig.returnType = M.2.2.2 ∧ meth.locks = false ∧ pExt adK adV A s ∧ ∀ q, s.heap.size ≤ q → A q
/-- a return instruction, and the answer that it gives -/
def pRet (M : pM) (pc : Nat) (r : Option Value) : Prop := (decode M.2.1 pc = .ok (.return_, 1) ∧ M.2.2.2 = none ∧ r = none) ∨ (decode M.2.1 pc = .ok (.ireturn, 1) ∧ ∃ ty x, M.2.2.2 = some ty ∧ narrow ty (.int x) = .int x ∧ r = some (.int x)) ∨ (decode M.2.1 pc = .ok (.lreturn, 1) ∧ M.2.2.2 = some .long ∧ ∃ x, r = some (.long x))
/-- at a return the rest is known -/
def pFin (l : Launch) (D : va_G) (cI cO : ClassId) (adK : Nat → Nat) (b : Nat) (M : pM) (p : Program) (e : Env) (R : Room) (s : State) (m : MethodId) (args : Array Value) (below : List Frame) (meth : Method) (c : Code) (A : Nat → Prop) (as0 : List Nat) (mc ms : Nat) (Q : pQ) (Z : State → Prop) : Prop :=
  ∀ (r : Option Value) (h : pH) (bs : List Nat) (ws : va_W) (H : Heap) (locs : List Loc) (cells slots : Nat) (cls : Array Slot) (pc : Nat), Q r h → pRet M pc r → wR cI cO (pSa adK b) (as0 ++ bs) h ws → va_P D clsP ws H → va_D A ws → va_S A s.heap H locs → cells ≤ mc → slots ≤ ms → W p l e R s m args below meth c H locs cells slots Z (F0 m pc cls r.toList)
/-- what a state of the pure machine says -/
def pSnd (mt : Nat → pM) (law : Nat) (l : Launch) (D : va_G) (cI cO : ClassId) (adK adV : Nat → Nat) (b : Nat) (sc : List Int32) : pX := fun B id pc ls st h Q =>
  ∀ (p : Program) (e : Env) (R : Room) (s : State) (m : MethodId) (args : Array Value) (below : List Frame) (meth : Method) (c : Code) (H : Heap) (locs : List Loc) (cells slots mc ms : Nat) (Z : State → Prop) (A : Nat → Prop) (as0 bs : List Nat) (ws : va_W) (cls : Array Slot) (cst : List Value),
    pCtx l D cI cO adK adV (mt id) p s m args meth c A → (id = law → va_X b sc.length (fun j => sc.getD j 0) s s.heap ∧ b < s.heap.size ∧ ¬ A b) →
    wR cI cO (pSa adK b) (as0 ++ bs) h ws → va_P D clsP ws H → va_D A ws → va_S A s.heap H locs →
    lR (pSa adK b) (as0 ++ bs) ls (mt id).2.2.1 cls → st.map (tv (pSa adK b) (as0 ++ bs)) = cst.map some →
    (B.1 + 8 ≤ R.frames ∧ 60 * (B.1 + 8) ≤ R.locals ∧ cells + B.2.1 ≤ mc ∧ slots + B.2.2 ≤ ms ∧ mc ≤ R.cells ∧ ms ≤ R.slots) →
    pFin l D cI cO adK b (mt id) p e R s m args below meth c A as0 mc ms Q Z →
    W p l e R s m args below meth c H locs cells slots Z (F0 m pc cls cst)
/-- an instruction's row: it is as its step says -/
def pOk (mt : Nat → pM) (law : Nat) (M : pM) (isLaw : Bool) (sc : List Int32) (pc : Nat) (op : pO) : Prop := ∀ (l : Launch) (D : va_G) (cI cO : ClassId) (adK adV : Nat → Nat) (b : Nat) (B : pB) (id : Nat) (ls : pL) (st : List Value) (h : pH) (Q : pQ),
  mt id = M → (isLaw = true → id = law) → op (pSnd mt law l D cI cO adK adV b sc) B id ls st h Q → pSnd mt law l D cI cO adK adV b sc B id pc ls st h Q
theorem pPop_inv {st : List Value} {k : Value → List Value → Prop} (h : pPop st k) : ∃ v r, st = v :: r ∧ k v r := by
  cases st with
  | nil => exact h.elim
  | cons v r => exact ⟨v, r, rfl, h⟩
theorem pI_inv {v : Value} {k : Int32 → Prop} (h : pI v k) : ∃ x, v = .int x ∧ k x := by
  cases v with
  | int x => exact ⟨x, rfl, h⟩
  | _ => exact h.elim
theorem pJ_inv {v : Value} {k : Int64 → Prop} (h : pJ v k) : ∃ x, v = .long x ∧ k x := by
  cases v with
  | long x => exact ⟨x, rfl, h⟩
  | _ => exact h.elim
theorem pR_inv {v : Value} {k : Nat → Prop} (h : pR v k) : ∃ x, v = .ref x ∧ k x := by
  cases v with
  | ref x => exact ⟨x, rfl, h⟩
  | _ => exact h.elim
theorem pSome_inv {α : Type} {o : Option α} {k : α → Prop} (h : pSome o k) : ∃ x, o = some x ∧ k x := by
  cases o with
  | some x => exact ⟨x, rfl, h⟩
  | none => exact h.elim
theorem pA_inv {h : pH} {i : Nat} {k : List Int32 → Prop} (q : pA h i k) : ∃ xs, pg h i = some (.inl xs) ∧ k xs := by
  obtain ⟨c, h1, h2⟩ := pSome_inv q
  cases c with
  | inl xs => exact ⟨xs, h1, h2⟩
  | inr o => exact h2.elim
theorem pOb_inv {h : pH} {i ci : Nat} {k : List Value → Prop} (q : pOb h i ci k) : ∃ fs, pg h i = some (.inr (ci, fs)) ∧ k fs := by
  obtain ⟨c, h1, h2⟩ := pSome_inv q
  cases c with
  | inl xs => exact h2.elim
  | inr o =>
    obtain ⟨c1, fs⟩ := o
    simp only [pCell] at h2
    cases hb : Nat.beq c1 ci with
    | true =>
      rw [hb, cond_true] at h2
      have : c1 = ci := Nat.eq_of_beq_eq_true hb
      subst this
      exact ⟨fs, h1, h2⟩
    | false => rw [hb] at h2; exact h2.elim
theorem p2_inv {st : List Value} {k : Int32 → Int32 → List Value → Prop} (h : p2 st k) : ∃ x y r, st = .int y :: .int x :: r ∧ k x y r := by
  obtain ⟨b, r, rfl, h1⟩ := pPop_inv h
  obtain ⟨a, r, rfl, h2⟩ := pPop_inv h1
  obtain ⟨y, rfl, h3⟩ := pI_inv h2
  obtain ⟨x, rfl, h4⟩ := pI_inv h3
  exact ⟨x, y, r, rfl, h4⟩
theorem p2L_inv {st : List Value} {k : Int64 → Int64 → List Value → Prop} (h : p2L st k) : ∃ x y r, st = .long y :: .long x :: r ∧ k x y r := by
  obtain ⟨b, r, rfl, h1⟩ := pPop_inv h
  obtain ⟨a, r, rfl, h2⟩ := pPop_inv h1
  obtain ⟨y, rfl, h3⟩ := pJ_inv h2
  obtain ⟨x, rfl, h4⟩ := pJ_inv h3
  exact ⟨x, y, r, rfl, h4⟩
theorem sI {sa : Nat → Option Nat} {as : List Nat} {x : Int32} {st cst : List Value} (h : (Value.int x :: st).map (tv sa as) = cst.map some) : ∃ c, cst = .int x :: c ∧ st.map (tv sa as) = c.map some := by
  cases cst with
  | nil => simp at h
  | cons w c =>
    simp only [List.map_cons, List.cons.injEq, tv, Option.some.injEq] at h
    exact ⟨c, by rw [← h.1], h.2⟩
theorem sJ {sa : Nat → Option Nat} {as : List Nat} {x : Int64} {st cst : List Value} (h : (Value.long x :: st).map (tv sa as) = cst.map some) : ∃ c, cst = .long x :: c ∧ st.map (tv sa as) = c.map some := by
  cases cst with
  | nil => simp at h
  | cons w c =>
    simp only [List.map_cons, List.cons.injEq, tv, Option.some.injEq] at h
    exact ⟨c, by rw [← h.1], h.2⟩
theorem sR {sa : Nat → Option Nat} {as : List Nat} {i : Nat} {st cst : List Value} (h : (Value.ref i :: st).map (tv sa as) = cst.map some) : ∃ a c, pg as i = some a ∧ cst = .ref a :: c ∧ st.map (tv sa as) = c.map some := by
  cases cst with
  | nil => simp at h
  | cons w c =>
    simp only [List.map_cons, List.cons.injEq, tv, Option.map_eq_some_iff] at h
    obtain ⟨⟨a, h1, h2⟩, h3⟩ := h
    exact ⟨a, c, h1, by rw [← h2], h3⟩
theorem sV {sa : Nat → Option Nat} {as : List Nat} {v : Value} {st cst : List Value} (h : (v :: st).map (tv sa as) = cst.map some) : ∃ w c, cst = w :: c ∧ tv sa as v = some w ∧ st.map (tv sa as) = c.map some := by
  cases cst with
  | nil => simp at h
  | cons w c =>
    simp only [List.map_cons, List.cons.injEq] at h
    exact ⟨w, c, rfl, h.1, h.2⟩
theorem sC {sa : Nat → Option Nat} {as : List Nat} {v w : Value} {st c : List Value} (hv : tv sa as v = some w) (h : st.map (tv sa as) = c.map some) : (v :: st).map (tv sa as) = (w :: c).map some := by
  simp only [List.map_cons, List.cons.injEq]
  exact ⟨hv, h⟩
