/-! A PURE MACHINE: its heap is a list of cells, a reference is a place in that list; its steps are predicates (what must hold so that the rest holds). A method runs in a heap of its own, cut out of the caller's (oCall). -/
abbrev pC : Type := List Int32 ⊕ (Nat × List Value)
abbrev pH : Type := List pC
abbrev pL : Type := List (Option Value)
abbrev pQ : Type := Option Value → pH → Prop
abbrev pB : Type := Nat × Nat × Nat
abbrev pX : Type := pB → Nat → Nat → pL → List Value → pH → pQ → Prop
abbrev pO : Type := pX → pB → Nat → pL → List Value → pH → pQ → Prop
def pg {α : Type} : List α → Nat → Option α
  | [], _ => none
  | a :: _, 0 => some a
  | _ :: l, n + 1 => pg l n
def pPop (st : List Value) (k : Value → List Value → Prop) : Prop := match st with
  | [] => False
  | v :: r => k v r
def pI (v : Value) (k : Int32 → Prop) : Prop := match v with
  | .int x => k x
  | _ => False
def pJ (v : Value) (k : Int64 → Prop) : Prop := match v with
  | .long x => k x
  | _ => False
def pR (v : Value) (k : Nat → Prop) : Prop := match v with
  | .ref x => k x
  | _ => False
/-- a reference of any kind: to a cell, or to what isn't ours (a text, the script) -/
def pRef (v : Value) (k : Prop) : Prop := match v with
  | .ref _ => k
  | .retAddr _ => k
  | _ => False
def pSome {α : Type} (o : Option α) (k : α → Prop) : Prop := match o with
  | some a => k a
  | none => False
def pCell (c : pC) (f : List Int32 → Prop) (g : Nat → List Value → Prop) : Prop := match c with
  | .inl xs => f xs
  | .inr o => g o.1 o.2
def pA (h : pH) (i : Nat) (k : List Int32 → Prop) : Prop := pSome (pg h i) fun c => pCell c k (fun _ _ => False)
def pOb (h : pH) (i ci : Nat) (k : List Value → Prop) : Prop := pSome (pg h i) fun c => pCell c (fun _ => False) (fun cj fs => bif Nat.beq cj ci then k fs else False)
def pKill (ls : pL) : Nat → pL
  | 0 => ls
  | j + 1 => match pg ls j with
    | some (some v) => bif Nat.beq v.category 2 then ls.set j none else ls
    | _ => ls
def pSet (ls : pL) (i : Nat) (v : Value) : pL := (pKill ls i).set i (some v)
def pSet2 (ls : pL) (i : Nat) (v : Value) : pL := ((pKill ls i).set i (some v)).set (i + 1) none
/-- a list with a new entry, written out before the rest goes on -/
def pHs {α : Type} : List α → Nat → α → (List α → Prop) → Prop
  | [], _, _, k => k []
  | _ :: r, 0, v, k => k (v :: r)
  | a :: r, n + 1, v, k => pHs r n v (fun r' => k (a :: r'))
def pKillK (ls : pL) (i : Nat) (k : pL → Prop) : Prop := match i with
  | 0 => k ls
  | j + 1 => match pg ls j with
    | some (some v) => bif Nat.beq v.category 2 then pHs ls j none k else k ls
    | _ => k ls
def oF : pO := fun _ _ _ _ _ _ _ => False
def oPush (v : Value) (n : Nat) : pO := fun X B me ls st h Q => X B me n ls (v :: st) h Q
def oLoadI (i n : Nat) : pO := fun X B me ls st h Q => pSome (pg ls i) fun o => pSome o fun v => pI v fun x => X B me n ls (.int x :: st) h Q
def oLoadL (i n : Nat) : pO := fun X B me ls st h Q => pSome (pg ls i) fun o => pSome o fun v => pJ v fun x => X B me n ls (.long x :: st) h Q
def oLoadA (i n : Nat) : pO := fun X B me ls st h Q => pSome (pg ls i) fun o => pSome o fun v => pRef v (X B me n ls (v :: st) h Q)
def oStoreI (i n : Nat) : pO := fun X B me ls st h Q => pPop st fun v st => pI v fun x => bif Nat.ble (i + 1) ls.length then (pKillK ls i fun ls => pHs ls i (some (.int x)) fun ls => X B me n ls st h Q) else False
def oStoreA (i n : Nat) : pO := fun X B me ls st h Q => pPop st fun v st => pR v fun x => bif Nat.ble (i + 1) ls.length then (pKillK ls i fun ls => pHs ls i (some (.ref x)) fun ls => X B me n ls st h Q) else False
def oStoreL (i n : Nat) : pO := fun X B me ls st h Q => pPop st fun v st => pJ v fun x => bif Nat.ble (i + 2) ls.length then (pKillK ls i fun ls => pHs ls i (some (.long x)) fun ls => pHs ls (i + 1) none fun ls => X B me n ls st h Q) else False
def oInc (i : Nat) (c : Int32) (n : Nat) : pO := fun X B me ls st h Q => pSome (pg ls i) fun o => pSome o fun v => pI v fun x => (pKillK ls i fun ls => pHs ls i (some (.int (x + c))) fun ls => X B me n ls st h Q)
/-- two ints of the stack -/
def p2 (st : List Value) (k : Int32 → Int32 → List Value → Prop) : Prop := pPop st fun b st => pPop st fun a st => pI b fun y => pI a fun x => k x y st
def p2L (st : List Value) (k : Int64 → Int64 → List Value → Prop) : Prop := pPop st fun b st => pPop st fun a st => pJ b fun y => pJ a fun x => k x y st
def oAdd (n : Nat) : pO := fun X B me ls st h Q => p2 st fun x y st => X B me n ls (.int (x + y) :: st) h Q
def oSub (n : Nat) : pO := fun X B me ls st h Q => p2 st fun x y st => X B me n ls (.int (x - y) :: st) h Q
def oMul (n : Nat) : pO := fun X B me ls st h Q => p2 st fun x y st => X B me n ls (.int (x * y) :: st) h Q
def oAnd (n : Nat) : pO := fun X B me ls st h Q => p2 st fun x y st => X B me n ls (.int (x &&& y) :: st) h Q
def oOr (n : Nat) : pO := fun X B me ls st h Q => p2 st fun x y st => X B me n ls (.int (x ||| y) :: st) h Q
def oDiv (n : Nat) : pO := fun X B me ls st h Q => p2 st fun x y st => (¬ y = 0) ∧ X B me n ls (.int (x / y) :: st) h Q
def oRem (n : Nat) : pO := fun X B me ls st h Q => p2 st fun x y st => (¬ y = 0) ∧ X B me n ls (.int (x - x / y * y) :: st) h Q
def oShl (n : Nat) : pO := fun X B me ls st h Q => p2 st fun x y st => X B me n ls (.int (x <<< (y &&& 31)) :: st) h Q
def oShr (n : Nat) : pO := fun X B me ls st h Q => p2 st fun x y st => X B me n ls (.int (x >>> (y &&& 31)) :: st) h Q
def oI2l (n : Nat) : pO := fun X B me ls st h Q => pPop st fun a st => pI a fun x => X B me n ls (.long x.toInt64 :: st) h Q
def oAddL (n : Nat) : pO := fun X B me ls st h Q => p2L st fun x y st => X B me n ls (.long (x + y) :: st) h Q
def oMulL (n : Nat) : pO := fun X B me ls st h Q => p2L st fun x y st => X B me n ls (.long (x * y) :: st) h Q
def oCmpL (n : Nat) : pO := fun X B me ls st h Q => p2L st fun x y st => X B me n ls (.int (lg_cmp x y) :: st) h Q
def oMin (n : Nat) : pO := fun X B me ls st h Q => p2 st fun x y st => (1 ≤ B.1 ∧ (st.map fun v => v.category).sum ≤ 8) ∧ X B me n ls (.int (if y < x then y else x) :: st) h Q
def oMax (n : Nat) : pO := fun X B me ls st h Q => p2 st fun x y st => (1 ≤ B.1 ∧ (st.map fun v => v.category).sum ≤ 8) ∧ X B me n ls (.int (if x < y then y else x) :: st) h Q
def oDup (n : Nat) : pO := fun X B me ls st h Q => pPop st fun v r => bif Nat.beq v.category 1 then X B me n ls (v :: v :: r) h Q else False
def oDup2 (n : Nat) : pO := fun X B me ls st h Q => pPop st fun v st => pPop st fun w r => bif Nat.beq v.category 1 && Nat.beq w.category 1 then X B me n ls (v :: w :: v :: w :: r) h Q else False
def oGoto (t : Nat) : pO := fun X B me ls st h Q => X B me t ls st h Q
def oIfLt (t n : Nat) : pO := fun X B me ls st h Q => p2 st fun x y st => (x < y → X B me t ls st h Q) ∧ (¬ x < y → X B me n ls st h Q)
def oIfLt0 (t n : Nat) : pO := fun X B me ls st h Q => pPop st fun a st => pI a fun x => (x < 0 → X B me t ls st h Q) ∧ (¬ x < 0 → X B me n ls st h Q)
def oIfGe (t n : Nat) : pO := fun X B me ls st h Q => p2 st fun x y st => (y ≤ x → X B me t ls st h Q) ∧ (¬ y ≤ x → X B me n ls st h Q)
def oIfGe0 (t n : Nat) : pO := fun X B me ls st h Q => pPop st fun a st => pI a fun x => (0 ≤ x → X B me t ls st h Q) ∧ (¬ 0 ≤ x → X B me n ls st h Q)
def oIfGt (t n : Nat) : pO := fun X B me ls st h Q => p2 st fun x y st => (y < x → X B me t ls st h Q) ∧ (¬ y < x → X B me n ls st h Q)
def oIfGt0 (t n : Nat) : pO := fun X B me ls st h Q => pPop st fun a st => pI a fun x => (0 < x → X B me t ls st h Q) ∧ (¬ 0 < x → X B me n ls st h Q)
def oIfLe (t n : Nat) : pO := fun X B me ls st h Q => p2 st fun x y st => (x ≤ y → X B me t ls st h Q) ∧ (¬ x ≤ y → X B me n ls st h Q)
def oIfLe0 (t n : Nat) : pO := fun X B me ls st h Q => pPop st fun a st => pI a fun x => (x ≤ 0 → X B me t ls st h Q) ∧ (¬ x ≤ 0 → X B me n ls st h Q)
def oIfEq (t n : Nat) : pO := fun X B me ls st h Q => p2 st fun x y st => (x = y → X B me t ls st h Q) ∧ (¬ x = y → X B me n ls st h Q)
def oIfEq0 (t n : Nat) : pO := fun X B me ls st h Q => pPop st fun a st => pI a fun x => (x = 0 → X B me t ls st h Q) ∧ (¬ x = 0 → X B me n ls st h Q)
def oNonNull (t : Nat) : pO := fun X B me ls st h Q => pPop st fun a st => pR a fun _ => X B me t ls st h Q
def pSw (x : Int32) (K : Nat → Prop) (d : Nat) : List (Int32 × Nat) → Prop
  | [] => K d
  | q :: r => (x = q.1 → K q.2) ∧ (¬ x = q.1 → pSw x K d r)
def oSw (ts : List (Int32 × Nat)) (d : Nat) : pO := fun X B me ls st h Q => pPop st fun a st => pI a fun x => pSw x (fun t => X B me t ls st h Q) d ts
def oRetV : pO := fun _ _ _ _ st h Q => match st with
  | [] => Q none h
  | _ => False
def oRetI : pO := fun _ _ _ _ st h Q => match st with
  | [v] => pI v fun x => Q (some (.int x)) h
  | _ => False
/-- a boolean: 0 or 1 -/
def oRetZ : pO := fun _ _ _ _ st h Q => match st with
  | [v] => pI v fun x => (x = 0 ∨ x = 1) ∧ Q (some (.int x)) h
  | _ => False
def oRetL : pO := fun _ _ _ _ st h Q => match st with
  | [v] => pJ v fun x => Q (some (.long x)) h
  | _ => False
def oRetA : pO := fun _ _ _ _ st h Q => match st with
  | [v] => pR v fun x => Q (some (.ref x)) h
  | _ => False
def oGet (ci k n : Nat) : pO := fun X B me ls st h Q => pPop st fun a st => pR a fun i => pOb h i ci fun fs => pSome (pg fs k) fun v => X B me n ls (v :: st) h Q
def oPutI (ci k n : Nat) : pO := fun X B me ls st h Q => pPop st fun v st => pPop st fun a st => pI v fun x => pR a fun i => pOb h i ci fun fs => bif Nat.ble (k + 1) fs.length then (pHs fs k (.int x) fun fs => pHs h i (.inr (ci, fs)) fun h => X B me n ls st h Q) else False
def oPutZ (ci k n : Nat) : pO := fun X B me ls st h Q => pPop st fun v st => pPop st fun a st => pI v fun x => pR a fun i => pOb h i ci fun fs => bif Nat.ble (k + 1) fs.length then (x = 0 ∨ x = 1) ∧ (pHs fs k (.int x) fun fs => pHs h i (.inr (ci, fs)) fun h => X B me n ls st h Q) else False
def oPutJ (ci k n : Nat) : pO := fun X B me ls st h Q => pPop st fun v st => pPop st fun a st => pJ v fun x => pR a fun i => pOb h i ci fun fs => bif Nat.ble (k + 1) fs.length then (pHs fs k (.long x) fun fs => pHs h i (.inr (ci, fs)) fun h => X B me n ls st h Q) else False
def oPutR (ci k n : Nat) : pO := fun X B me ls st h Q => pPop st fun v st => pPop st fun a st => pR v fun x => pR a fun i => pOb h i ci fun fs => bif Nat.ble (k + 1) fs.length then (pHs fs k (.ref x) fun fs => pHs h i (.inr (ci, fs)) fun h => X B me n ls st h Q) else False
def oLd (n : Nat) : pO := fun X B me ls st h Q => pPop st fun j st => pPop st fun a st => pI j fun j => pR a fun i => pA h i fun xs => vp_in j xs.length ∧ X B me n ls (.int (xs.getD j.toNatClampNeg 0) :: st) h Q
def oSt (n : Nat) : pO := fun X B me ls st h Q => pPop st fun v st => pPop st fun j st => pPop st fun a st => pI v fun v => pI j fun j => pR a fun i => pA h i fun xs => vp_in j xs.length ∧ (pHs h i (.inl (xs.set j.toNatClampNeg v)) fun h => X B me n ls st h Q)
def oLen (n : Nat) : pO := fun X B me ls st h Q => pPop st fun a st => pR a fun i => pA h i fun xs => X B me n ls (.int (nI xs.length) :: st) h Q
def oLdA (n : Nat) : pO := fun X B me ls st h Q => pPop st fun j st => pPop st fun a st => pI j fun j => pR a fun i => pOb h i 50 fun fs => vp_in j fs.length ∧ pSome (pg fs j.toNatClampNeg) fun v => pR v fun q => X B me n ls (.ref q :: st) h Q
def oStA (n : Nat) : pO := fun X B me ls st h Q => pPop st fun v st => pPop st fun j st => pPop st fun a st => pR v fun q => pI j fun j => pR a fun i => pOb h q 2 fun _ => pOb h i 50 fun fs => vp_in j fs.length ∧ (pHs fs j.toNatClampNeg (.ref q) fun fs => pHs h i (.inr (50, fs)) fun h => X B me n ls st h Q)
def oNew (ci : Nat) (fs : List Value) (n : Nat) : pO := fun X B me ls st h Q => (1 ≤ B.2.1 ∧ fs.length ≤ B.2.2) ∧ X (B.1, B.2.1 - 1, B.2.2 - fs.length) me n ls (.ref h.length :: st) (h ++ [.inr (ci, fs)]) Q
def oNewI (n : Nat) : pO := fun X B me ls st h Q => pPop st fun a st => pI a fun x => (¬ x < 0) ∧ (x.toNatClampNeg ≤ 100000 ∧ 1 ≤ B.2.1 ∧ x.toNatClampNeg ≤ B.2.2) ∧ X (B.1, B.2.1 - 1, B.2.2 - x.toNatClampNeg) me n ls (.ref h.length :: st) (h ++ [.inl (List.replicate x.toNatClampNeg 0)]) Q
def oNewA (n : Nat) : pO := fun X B me ls st h Q => pPop st fun a st => pI a fun x => (¬ x < 0) ∧ (x.toNatClampNeg ≤ 100000 ∧ 1 ≤ B.2.1 ∧ x.toNatClampNeg ≤ B.2.2) ∧ X (B.1, B.2.1 - 1, B.2.2 - x.toNatClampNeg) me n ls (.ref h.length :: st) (h ++ [.inr (50, List.replicate x.toNatClampNeg .null)]) Q
/-- System.arraycopy over int arrays -/
def pCopy (src dst : List Int32) (sp dp n : Nat) : List Int32 := dst.take dp ++ (src.drop sp).take n ++ dst.drop (dp + n)
def oCopy (n : Nat) : pO := fun X B me ls st h Q => pPop st fun len st => pPop st fun dp st => pPop st fun d st => pPop st fun sp st => pPop st fun s st => pI len fun len => pI dp fun dp => pR d fun d => pI sp fun sp => pR s fun s => pA h s fun xs => pA h d fun ys =>
  ((1 ≤ B.1 ∧ (st.map fun v => v.category).sum ≤ 8) ∧ (¬ sp < 0 ∧ ¬ dp < 0 ∧ ¬ len < 0) ∧ sp.toNatClampNeg + len.toNatClampNeg ≤ xs.length ∧ dp.toNatClampNeg + len.toNatClampNeg ≤ ys.length) ∧ (pHs h d (.inl (pCopy xs ys sp.toNatClampNeg dp.toNatClampNeg len.toNatClampNeg)) fun h => X B me n ls st h Q)
/-- the law's own script -/
def oSld (sc : List Int32) (n : Nat) : pO := fun X B me ls st h Q => pPop st fun j st => pPop st fun a st => pI j fun j => (a = .retAddr 7 ∧ vp_in j sc.length) ∧ X B me n ls (.int (sc.getD j.toNatClampNeg 0) :: st) h Q
def oSlen (sc : List Int32) (n : Nat) : pO := fun X B me ls st h Q => pPop st fun a st => a = .retAddr 7 ∧ X B me n ls (.int (nI sc.length) :: st) h Q
/-- a callee's reference, in its caller's heap -/
def rnv (ρ : List Nat) : Value → Value
  | .ref j => match pg ρ j with
    | some i => .ref i
    | none => .retAddr 99999
  | v => v
def rnc (ρ : List Nat) : pC → pC
  | .inl xs => .inl xs
  | .inr o => .inr (o.1, o.2.map (rnv ρ))
def hput (ρ' : List Nat) : List Nat → pH → pH → pH
  | i :: ρ, c :: h', h => hput ρ' ρ h' (h.set i (rnc ρ' c))
  | [], c :: h', h => hput ρ' [] h' (h ++ [rnc ρ' c])
  | _, [], h => h
def rext (ρ : List Nat) (n : Nat) (h' : pH) : List Nat := ρ ++ List.range' n (h'.length - ρ.length)
def pEnt : List Value → pL
  | [] => []
  | .long x :: r => some (.long x) :: none :: pEnt r
  | v :: r => some v :: pEnt r
def pEntry (av : List Value) (n : Nat) : pL := pEnt av ++ List.replicate (n - (pEnt av).length) none
def rpush (ρ' : List Nat) (r : Option Value) (st : List Value) : List Value := match r with
  | none => st
  | some v => rnv ρ' v :: st
def pRecv (h : pH) (ci : Nat) : List Value → Prop
  | .ref j :: _ => pOb h j ci fun _ => True
  | _ => False
def pNoD : List Value → Bool
  | [] => true
  | .double _ :: _ => false
  | _ :: r => pNoD r
def oCall (cid na maxL n : Nat) : pO := fun X B me ls st h Q => ∃ (ρ : List Nat) (av : List Value) (hc : pH) (k z : Nat) (Qc : pQ),
  ((1 ≤ B.1 ∧ k ≤ B.2.1 ∧ z ≤ B.2.2) ∧ va_nd ρ = true ∧ ρ.map (pg h) = hc.map (fun c => some (rnc ρ c)) ∧ (st.take na).reverse = av.map (rnv ρ) ∧ (av.length = na ∧ na ≤ st.length) ∧ ((st.drop na).map fun v => v.category).sum ≤ 8 ∧ (pEnt av).length ≤ maxL ∧ pNoD av = true) ∧
  X (B.1 - 1, k, z) cid 0 (pEntry av maxL) [] hc Qc ∧
  ∀ r h', Qc r h' → ρ.length ≤ h'.length ∧ X (B.1, B.2.1 - k, B.2.2 - z) me n ls (rpush (rext ρ h.length h') r (st.drop na)) (hput (rext ρ h.length h') ρ h' h) Q
/-- a call over a receiver of class ci -/
def oCallV (cid ci na maxL n : Nat) : pO := fun X B me ls st h Q => pRecv h ci (st.take na).reverse ∧ oCall cid na maxL n X B me ls st h Q
def pRecv1 : List Value → Prop
  | .ref _ :: _ => True
  | _ => False
def oCallI (cid na maxL n : Nat) : pO := fun X B me ls st h Q => pRecv1 (st.take na).reverse ∧ oCall cid na maxL n X B me ls st h Q
/-- Object's constructor -/
def oObj (n : Nat) : pO := fun X B me ls st h Q => pPop st fun a st => pR a fun _ => ((1 ≤ B.1) ∧ (st.map fun v => v.category).sum ≤ 8) ∧ X B me n ls st h Q
/-- the class's texts: "12abfg", "a", "b", "f1", "g12" -/
def pTx : List (List Int32) := [[49, 50, 97, 98, 102, 103], [97], [98], [102, 49], [103, 49, 50]]
def pT (v : Value) (k : List Int32 → Prop) : Prop := match v with
  | .retAddr i => pSome (pg pTx i) k
  | _ => False
def pIx (c : Int32) : List Int32 → Nat → Int32
  | [], _ => -1
  | b :: l, k => if b = c then nI k else pIx c l (k + 1)
/-- at most k values, none of them wide -/
def pShort : Nat → List Value → Bool
  | _, [] => true
  | 0, _ :: _ => false
  | k + 1, v :: r => match v with
    | .long _ => false
    | .double _ => false
    | _ => pShort k r
def oStr (k n : Nat) : pO := fun X B me ls st h Q => X B me n ls (.retAddr k :: st) h Q
def oTxtLength (n : Nat) : pO := fun X B me ls st h Q => pPop st fun a st => pT a fun t => cond (pShort 8 st) (X B me n ls (.int (nI t.length) :: st) h Q) False
def oTxtCharAt (n : Nat) : pO := fun X B me ls st h Q => pPop st fun j st => pPop st fun a st => pI j fun j => pT a fun t => vp_in j t.length ∧ cond (pShort 8 st) (X B me n ls (.int (t.getD j.toNatClampNeg 0) :: st) h Q) False
def oTxtIndexOf (n : Nat) : pO := fun X B me ls st h Q => pPop st fun c st => pPop st fun a st => pI c fun c => pT a fun t => cond (pShort 8 st) (X B me n ls (.int (pIx c t 0) :: st) h Q) False
/-- Arrays.copyOfRange within the array -/
def oCopyR (n : Nat) : pO := fun X B me ls st h Q => pPop st fun t st => pPop st fun f st => pPop st fun a st => pI t fun t => pI f fun f => pR a fun i => pA h i fun xs =>
  (f.toNatClampNeg ≤ t.toNatClampNeg ∧ t.toNatClampNeg ≤ xs.length ∧ ¬ f < 0 ∧ ¬ t < 0 ∧ 1 ≤ B.2.1 ∧ t.toNatClampNeg - f.toNatClampNeg ≤ B.2.2 ∧ 4 ≤ B.1 ∧ xs.length ≤ 134217728) ∧ cond (pShort 8 st) (X (B.1, B.2.1 - 1, B.2.2 - (t.toNatClampNeg - f.toNatClampNeg)) me n ls (.ref h.length :: st) (h ++ [.inl ((xs.drop f.toNatClampNeg).take (t.toNatClampNeg - f.toNatClampNeg))]) Q) False
