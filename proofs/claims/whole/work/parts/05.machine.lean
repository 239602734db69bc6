/-! the layout: a cell is (family, instance); families are numbered by the place of their first instance in the order of making; 0 is the script -/
def fkT : List (Nat × Nat) := [(98, 0), (8, 9), (21, 160), (23, 10), (21, 11), (4, 3), (21, 0), (6, 5), (7, 11), (21, 1920), (20, 12), (20, 12), (22, 12), (20, 12), (22, 12), (20, 40), (22, 40), (20, 40), (24, 12), (25, 12), (21, 13), (3, 16), (20, 80), (22, 80), (20, 80), (20, 80), (20, 40), (22, 40), (20, 40), (20, 40), (20, 53), (20, 53), (1, 10), (20, 100), (20, 100), (22, 100), (20, 100), (20, 53), (99, 0), (99, 0), (99, 0), (99, 0), (99, 0), (99, 0), (99, 0), (99, 0), (99, 0), (99, 0), (99, 0), (99, 0), (99, 0), (99, 0), (99, 0), (99, 0), (99, 0), (99, 0), (99, 0), (99, 0), (99, 0), (99, 0), (99, 0), (99, 0), (99, 0), (99, 0), (99, 0), (99, 0), (99, 0), (99, 0), (99, 0), (99, 0), (99, 0), (99, 0), (99, 0), (99, 0), (99, 0), (99, 0), (99, 0), (99, 0), (99, 0), (99, 0), (99, 0), (99, 0), (99, 0), (99, 0), (99, 0), (99, 0), (99, 0), (99, 0), (99, 0), (99, 0), (99, 0), (99, 0), (99, 0), (99, 0), (99, 0), (99, 0), (99, 0), (99, 0), (99, 0), (99, 0), (99, 0), (99, 0), (99, 0), (99, 0), (99, 0), (99, 0), (99, 0), (99, 0), (99, 0), (99, 0), (99, 0), (99, 0), (99, 0), (99, 0), (99, 0), (99, 0), (99, 0), (99, 0), (99, 0), (99, 0), (99, 0), (99, 0), (99, 0), (99, 0), (99, 0), (99, 0), (99, 0), (99, 0), (99, 0), (99, 0), (99, 0), (99, 0), (99, 0), (99, 0), (99, 0), (99, 0), (99, 0), (99, 0), (99, 0), (99, 0), (99, 0), (99, 0), (99, 0), (99, 0), (99, 0), (99, 0), (99, 0), (99, 0), (99, 0), (99, 0), (99, 0), (99, 0), (99, 0), (99, 0), (99, 0), (99, 0), (99, 0), (99, 0), (99, 0), (99, 0), (99, 0), (99, 0), (99, 0), (99, 0), (99, 0), (99, 0), (99, 0), (99, 0), (99, 0), (99, 0), (99, 0), (99, 0), (99, 0), (99, 0), (99, 0), (99, 0), (99, 0), (99, 0), (99, 0), (99, 0), (99, 0), (99, 0), (99, 0), (99, 0), (99, 0), (99, 0), (99, 0), (99, 0), (99, 0), (99, 0), (99, 0), (99, 0), (99, 0), (99, 0), (99, 0), (99, 0), (99, 0), (99, 0), (99, 0), (99, 0), (99, 0), (99, 0), (99, 0), (99, 0), (99, 0), (99, 0), (99, 0), (99, 0), (99, 0), (99, 0), (99, 0), (99, 0), (99, 0), (99, 0), (99, 0), (99, 0), (99, 0), (99, 0), (99, 0), (99, 0), (99, 0), (99, 0), (99, 0), (99, 0), (99, 0), (5, 9), (20, 169), (22, 169), (20, 169), (2, 10), (21, 11), (21, 11), (20, 12), (9, 46), (20, 160), (20, 2830), (20, 28300), (20, 12), (20, 28), (20, 12), (20, 12), (20, 12), (20, 1200), (20, 1200), (20, 12000), (20, 20448), (20, 1200), (20, 12), (20, 648), (20, 648), (20, 648), (20, 12), (20, 12), (20, 12), (20, 504), (20, 504), (20, 504), (20, 13), (20, 13), (20, 13), (20, 64), (20, 5600), (20, 12), (20, 12), (20, 16), (20, 160)]
def fkd (f : Nat) : Nat × Nat := fkT.getD f (99, 0)
def srT : List (List (Nat × Nat)) := [[], [(0, 2), (2, 5), (3, 7), (4, 225), (5, 229), (6, 3), (8, 4)], [], [], [], [], [], [(0, 8), (1, 18), (2, 19), (3, 20)], [(0, 9), (1, 10), (3, 11), (4, 12), (5, 13), (6, 14), (8, 15), (9, 16), (10, 17)], [], [], [], [], [], [], [], [], [], [], [], [], [(2, 22), (3, 23), (4, 24), (5, 25), (9, 26), (10, 27), (11, 28), (12, 29), (14, 30), (15, 31)], [], [], [], [], [], [], [], [], [], [], [(3, 33), (4, 34), (5, 35), (6, 36), (7, 37)], [], [], [], [], [], [], [], [], [], [], [], [], [], [], [], [], [], [], [], [], [], [], [], [], [], [], [], [], [], [], [], [], [], [], [], [], [], [], [], [], [], [], [], [], [], [], [], [], [], [], [], [], [], [], [], [], [], [], [], [], [], [], [], [], [], [], [], [], [], [], [], [], [], [], [], [], [], [], [], [], [], [], [], [], [], [], [], [], [], [], [], [], [], [], [], [], [], [], [], [], [], [], [], [], [], [], [], [], [], [], [], [], [], [], [], [], [], [], [], [], [], [], [], [], [], [], [], [], [], [], [], [], [], [], [], [], [], [], [], [], [], [], [], [], [], [], [], [], [], [], [], [], [], [], [], [], [], [], [], [], [], [], [], [], [], [], [], [], [], [], [], [], [], [], [], [], [], [], [], [], [], [], [], [], [], [], [], [], [], [], [], [], [(0, 7), (6, 226), (7, 227), (8, 228)], [], [], [], [(0, 7), (6, 230), (8, 231), (9, 232)], [], [], [], [(0, 234), (2, 235), (3, 236), (7, 237), (8, 238), (9, 239), (10, 240), (11, 241), (12, 242), (13, 243), (14, 244), (15, 245), (16, 246), (17, 247), (18, 248), (19, 249), (20, 250), (21, 251), (22, 252), (23, 253), (24, 254), (25, 255), (26, 256), (27, 257), (28, 258), (29, 259), (32, 260), (34, 261), (38, 262), (42, 263), (43, 264), (45, 265)], [], [], [], [], [], [], [], [], [], [], [], [], [], [], [], [], [], [], [], [], [], [], [], [], [], [], [], [], [], [], [], []]
def ftT : List (List Nat) := [[], [0, 0, 0, 2, 2, 2, 2, 2, 0, 0], [2, 0, 0, 0, 1, 1, 2, 0, 2, 2], [0, 0, 2, 2, 2, 2, 0, 0, 0, 2, 2, 2, 2, 0, 2, 2], [2, 0, 0], [2, 0, 0, 1, 0, 0, 2, 2, 2], [2, 2, 2, 2, 0], [2, 2, 0, 2, 2, 2, 2, 0, 2, 2, 2], [2, 0, 2, 2, 2, 2, 2, 0, 2], [2, 0, 2, 2, 0, 3, 0, 2, 2, 2, 2, 2, 2, 2, 2, 2, 2, 2, 2, 2, 2, 2, 2, 2, 2, 2, 2, 2, 2, 2, 0, 0, 2, 0, 2, 0, 0, 0, 2, 0, 0, 0, 2, 2, 0, 2]]
def fnT : List (List Bool) := [[], [false, false, false, true, true, true, true, true, false, false], [true, false, false, false, false, false, true, false, true, true], [true, false, true, true, true, true, false, false, false, true, true, true, true, false, true, true], [false, false, false], [true, false, false, false, false, false, true, true, true], [true, true, true, true, false], [true, true, false, true, true, true, true, false, true, true, true], [true, false, true, true, true, true, true, false, true], [true, false, true, true, false, false, false, true, true, true, true, true, true, true, true, true, true, true, true, true, true, true, true, true, true, true, true, true, true, true, false, false, true, false, true, false, false, false, true, false, false, false, true, true, false, true]]
def lkI {α : Type} : List (Nat × α) → Nat → Option α
  | [], _ => none
  | (a, v) :: t, k => bif Nat.beq a k then some v else lkI t k
/-- 0: one instance; 1: one for each page; 2: one for each State -/
def fty (f : Nat) : Nat := bif Nat.blt f 8 then 0 else bif Nat.blt f 18 then 2 else bif Nat.blt f 21 then 0 else bif Nat.blt f 38 then 1 else 0
def cidx (f p : Nat) : Nat := match fty f with
  | 1 => f + 17 * p
  | 2 => (match p with
    | 0 => f
    | q + 1 => 266 + 10 * q + (f - 8))
  | _ => f
def fa (i : Nat) : Nat × Nat := if i < 21 then (i, 0) else if i < 225 then (21 + (i - 21) % 17, (i - 21) / 17) else if i < 266 then (i, 0) else (8 + (i - 266) % 10, (i - 266) / 10 + 1)
def srf (f p k : Nat) : Option (Nat × Nat) := match f with
  | 18 => some (21, k)
  | 19 => some (32, k)
  | f => match lkI (srT.getD f []) k with
    | some g => some (g, p)
    | none => none
def ftyp (ci k : Nat) : Nat := (ftT.getD ci []).getD k 9
def ffin (ci k : Nat) : Bool := (fnT.getD ci []).getD k true
def flk (oc idx : Nat) : Option (Nat × Nat) := (flT.find? fun q => Nat.beq q.1 oc && Nat.beq q.2.1 idx).map fun q => (q.2.2.1, q.2.2.2.1)
def mlk (oc idx : Nat) : Option (Nat × Nat) := (mkT.find? fun q => Nat.beq q.1 oc && Nat.beq q.2.1 idx).map fun q => (q.2.2.1, q.2.2.2.1)
def clk (oc idx : Nat) : Option Nat := (ckT.find? fun q => Nat.beq q.1 oc && Nat.beq q.2.1 idx).map fun q => q.2.2.1
def ick (oc idx : Nat) : Option Int32 := (icT.find? fun q => Nat.beq q.1 oc && Nat.beq q.2.1 idx).map fun q => q.2.2.1
def lck (oc idx : Nat) : Option Int64 := (lcT.find? fun q => Nat.beq q.1 oc && Nat.beq q.2.1 idx).map fun q => q.2.2.1
/-! values and heaps -/
abbrev AV : Type := Int32 ⊕ (Int64 ⊕ Option (Nat × Nat))
abbrev Hp : Type := (Nat × Nat × Nat) × (Nat → Nat → Nat → Int32) × (Nat → Nat → Nat → Int64) × (Nat → Nat → Nat → Option (Nat × Nat))
abbrev Ls : Type := List (Option AV)
abbrev vi (x : Int32) : AV := Sum.inl x
abbrev vl (x : Int64) : AV := Sum.inr (Sum.inl x)
abbrev vr (f p : Nat) : AV := Sum.inr (Sum.inr (some (f, p)))
def hI (σ : Hp) (f p k : Nat) : Int32 := σ.2.1 f p k
def hL (σ : Hp) (f p k : Nat) : Int64 := σ.2.2.1 f p k
def hR (σ : Hp) (f p k : Nat) : Option (Nat × Nat) := σ.2.2.2 f p k
def setI (σ : Hp) (f p k : Nat) (x : Int32) : Hp := (σ.1, (fun f' p' k' => if f' = f ∧ p' = p ∧ k' = k then x else σ.2.1 f' p' k'), σ.2.2)
def setL (σ : Hp) (f p k : Nat) (x : Int64) : Hp := (σ.1, σ.2.1, (fun f' p' k' => if f' = f ∧ p' = p ∧ k' = k then x else σ.2.2.1 f' p' k'), σ.2.2.2)
def setR (σ : Hp) (f p k : Nat) (x : Option (Nat × Nat)) : Hp := (σ.1, σ.2.1, σ.2.2.1, (fun f' p' k' => if f' = f ∧ p' = p ∧ k' = k then x else σ.2.2.2 f' p' k'))
/-- a new cell, all 0 and null -/
def zap (σ : Hp) (f p n : Nat) : Hp := ((σ.1.1 + 1, σ.1.2.1 + n, σ.1.2.2), (fun f' p' k' => if f' = f ∧ p' = p then 0 else σ.2.1 f' p' k'), (fun f' p' k' => if f' = f ∧ p' = p then 0 else σ.2.2.1 f' p' k'), (fun f' p' k' => if f' = f ∧ p' = p then none else σ.2.2.2 f' p' k'))
def cpI (σ : Hp) (f p sp g q dp n : Nat) : Hp := (σ.1, (fun f' p' k' => if f' = g ∧ p' = q then va_cpy (σ.2.1 f p) (σ.2.1 g q) sp dp n k' else σ.2.1 f' p' k'), σ.2.2)
def cpL (σ : Hp) (f p sp g q dp n : Nat) : Hp := (σ.1, σ.2.1, (fun f' p' k' => if f' = g ∧ p' = q then va_cpy (σ.2.2.1 f p) (σ.2.2.1 g q) sp dp n k' else σ.2.2.1 f' p' k'), σ.2.2.2)
def rdr (md : Bool) (σ : Hp) (f p k : Nat) : Option (Nat × Nat) := match md with
  | true => (match srf f p k with
    | some a => some a
    | none => hR σ f p k)
  | false => hR σ f p k
def rdf (md : Bool) (σ : Hp) (ci f p k : Nat) : AV := match ftyp ci k with
  | 0 => Sum.inl (hI σ f p k)
  | 3 => Sum.inl (hI σ f p k)
  | 1 => Sum.inr (Sum.inl (hL σ f p k))
  | _ => Sum.inr (Sum.inr (rdr md σ f p k))
/-- a cell may be used: the instance as it is named in the heap -/
def acc (md : Bool) (σ : Hp) (f p : Nat) (K : Nat → Prop) : Prop := match md with
  | true => (match fty f with
    | 0 => K 0
    | 1 => p < 12 ∧ K p
    | _ => (match p with
      | 0 => K 0
      | q + 1 => 266 + 10 * q < σ.1.1 ∧ K (q + 1)))
  | false => (match fty f with
    | 0 => f < σ.1.1 ∧ K 0
    | 1 => p < 12 ∧ f + 17 * p < σ.1.1 ∧ K p
    | _ => cidx f p < σ.1.1 ∧ K p)
def cat (v : AV) : Nat := match v with
  | .inr (.inl _) => 2
  | _ => 1
def stw : List AV → Nat
  | [] => 0
  | v :: t => cat v + stw t
/-- locals: a store of one slot, of two -/
def clr (ls : Ls) (i : Nat) : Ls := match i with
  | 0 => ls
  | j + 1 => (match ls[j]? with
    | some (some (.inr (.inl _))) => ls.set j none
    | _ => ls)
def sto1 (ls : Ls) (i : Nat) (v : AV) : Ls := (clr ls i).set i (some v)
def sto2 (ls : Ls) (i : Nat) (v : AV) : Ls := ((clr ls i).set i (some v)).set (i + 1) none
def ent : List AV → Ls
  | [] => []
  | .inr (.inl y) :: t => some (vl y) :: none :: ent t
  | v :: t => some v :: ent t
def entL (nL : Nat) (as : List AV) : Ls := ent as ++ List.replicate (nL - (ent as).length) none
/-- the machine's values -/
def adr (z b : Nat) (a : Nat × Nat) : Nat := match a.1 with
  | 0 => b
  | f + 1 => z + cidx (f + 1) a.2
def cvv (z b : Nat) (v : AV) : Value := match v with
  | .inl x => .int x
  | .inr (.inl y) => .long y
  | .inr (.inr r) => va_rf (r.map (adr z b))
def cellE (md : Bool) (dT : Nat → ClassId) (z b : Nat) (σ : Hp) (a : Nat × Nat) : va_E :=
  if (fkd a.1).1 < 20 then .inr ((fkd a.1).1, (List.range (fkd a.1).2).map fun j => cvv z b (rdf md σ (fkd a.1).1 a.1 a.2 j))
  else .inl (dT (fkd a.1).1, (fkd a.1).2, if (fkd a.1).1 = 22 then .inr (.inl (hL σ a.1 a.2)) else if (fkd a.1).1 < 22 then .inl (hI σ a.1 a.2) else .inr (.inr (.inr (.inr fun j => (rdr md σ a.1 a.2 j).map (adr z b)))))
def wsl (md : Bool) (dT : Nat → ClassId) (z b : Nat) (σ : Hp) : va_W := (List.range (σ.1.1 - 1)).map fun i => (z + (i + 1), cellE md dT z b σ (fa (i + 1)))
abbrev clsW : List vw_C := [(RX1, TX1, 10), (RX1, TX1, 10), (RX2, TX2, 10), (RX3, TX3, 16), (RX4, TX4, 3), (RX5, TX5, 9), (RX6, TX6, 5), (RX7, TX7, 11), (RX8, TX8, 9), (RX9, TX9, 46)]
abbrev tysL (dT : Nat → ClassId) : List (ClassId × FieldType) := [(dT 20, .int), (dT 21, .char), (dT 22, .long), (dT 23, .object RX7), (dT 24, .object RX3), (dT 25, .object RX1)]
def HI (md : Bool) (D : va_G) (dT : Nat → ClassId) (z b : Nat) (σ : Hp) (U : State) (H : Heap) : Prop :=
  va_K D clsW (tysL dT) U ∧ va_P D clsW (wsl md dT z b σ) H ∧ H.size = z + σ.1.1 ∧ (∀ f p k, (fkd f).1 = 21 → fits .char (.int (hI σ f p k)) = true) ∧ va_X b σ.1.2.2 (hI σ 0 0) U H ∧ b ≤ z ∧ 1 ≤ σ.1.1 ∧ (md = true → ∃ j, σ.1.1 = 266 + 10 * j)
/-- the words that every method stands on -/
def okW (w : Cond) : Bool := goodWord w || (match w with
  | .methodLinkNest .. => true
  | .arrayOver (.object _) => true
  | _ => false)
def wT : List Cond := lw_tbl.filter okW
def rOk (ret : Option FieldType) (r : Option AV) : Prop := match ret with
  | none => r = none
  | some .long => ∃ y : Int64, r = some (vl y)
  | some _ => ∃ x : Int32, r = some (vi x)
/-- the contract: from the heap σ the method mi returns, Q of the answer and the heap, the heap's counts are B -/
def Ev (md : Bool) (d mi : Nat) (args : List AV) (σ : Hp) (B : Nat × Nat × Nat) (Q : Option AV → Hp → Prop) : Prop :=
  σ.1.1 ≤ B.1 ∧ σ.1.2.1 ≤ B.2.1 ∧ ∃ me : MEnt, MT[mi]? = some me ∧ ∀ (l : Launch) (D : va_G) (dT : Nat → ClassId) (z b : Nat),
    Met l me.1 (Cond.code me.1 me.2.1 me.2.2.1 me.2.2.2.1 :: wT) { frames := d, cells := B.1 - σ.1.1, slots := B.2.1 - σ.1.2.1, locals := 64 * d }
      (fun v U => v = (args.map (cvv z b)).toArray ∧ HI md D dT z b σ U U.heap)
      (fun _ st o t => (∃ (r : Option AV) (σ' : Hp), rOk me.2.2.2.1 r ∧ Q r σ' ∧ σ'.1 = B ∧ o = .returned (r.map (cvv z b)) ∧ HI md D dT z b σ' t t.heap) ∧ va_F (fun q => z < q) st t)
      (B.1 - σ.1.1) (B.2.1 - σ.1.2.1) (fun q => z < q)
def CalI (md : Bool) (d mj : Nat) (as : List AV) (σ : Hp) (B : Nat × Nat × Nat) (K : Int32 → Hp → Prop) : Prop := ∃ B' Q', Ev md d mj as σ B' Q' ∧ B'.1 ≤ B.1 ∧ B'.2.1 ≤ B.2.1 ∧ ∀ x σ', Q' (some (vi x)) σ' → σ'.1 = B' → K x σ'
def CalL (md : Bool) (d mj : Nat) (as : List AV) (σ : Hp) (B : Nat × Nat × Nat) (K : Int64 → Hp → Prop) : Prop := ∃ B' Q', Ev md d mj as σ B' Q' ∧ B'.1 ≤ B.1 ∧ B'.2.1 ≤ B.2.1 ∧ ∀ x σ', Q' (some (vl x)) σ' → σ'.1 = B' → K x σ'
def CalV (md : Bool) (d mj : Nat) (as : List AV) (σ : Hp) (B : Nat × Nat × Nat) (K : Hp → Prop) : Prop := ∃ B' Q', Ev md d mj as σ B' Q' ∧ B'.1 ≤ B.1 ∧ B'.2.1 ≤ B.2.1 ∧ ∀ σ', Q' none σ' → σ'.1 = B' → K σ'
def LsI (z b nL : Nat) (arr : Array Slot) (ls : Ls) : Prop := arr.size = nL ∧ lv_wf arr ∧ ls.length = nL ∧ ∀ (i : Nat) (v : AV), ls[i]? = some (some v) → arr[i]? = some (Slot.val (cvv z b v))
def MA : List MEnt := MT ++ [eLaw]
def rIns (ret : Option FieldType) (ri : Instr) (r : Option AV) : Prop := match ret with
  | none => ri = .return_ ∧ r = none
  | some .long => ri = .lreturn ∧ ∃ y : Int64, r = some (vl y)
  | some .boolean => ri = .ireturn ∧ ∃ x : Int32, r = some (vi x) ∧ (x = 0 ∨ x = 1)
  | some _ => ri = .ireturn ∧ ret = some .int ∧ ∃ x : Int32, r = some (vi x)
/-- what holds in a frame of the method me -/
def Cx (me : MEnt) (ini : Bool) (d : Nat) (p : Program) (R : Room) (s : State) (m : MethodId) (args : Array Value) (meth : Method) (c : Code) : Prop :=
  p.tables.exec = Jvm.exec ∧ c.code = me.2.1 ∧ c.maxLocals = me.2.2.1 ∧ s.vm.findClass (ownN me.2.2.2.2.1) = some m.cls ∧ (∀ w ∈ wT, w.before args s = true) ∧ (ini = true → meth.name = "<init>") ∧ d ≤ R.frames ∧ 64 * d ≤ R.locals ∧ dchk me.2.1 me.2.2.2.2.2 = true
def isIni (me : MEnt) : Bool := decide (me.1.name = "<init>")
/-- the frame, at pc with ls, st, σ, comes to its end, with Qa -/
def Sat (md : Bool) (d mi : Nat) (B : Nat × Nat × Nat) (Qa : Option AV → Hp → Prop) (pc : Nat) (ls : Ls) (st : List AV) (σ : Hp) : Prop :=
  ∀ me : MEnt, MA[mi]? = some me → ∀ (p : Program) (l : Launch) (e : Env) (R : Room) (s : State) (m : MethodId) (args : Array Value) (below : List Frame) (meth : Method) (c : Code) (Qm : State → Prop) (D : va_G) (dT : Nat → ClassId) (z b n0 t0 : Nat),
    Cx me (isIni me) d p R s m args meth c → B.1 ≤ n0 + R.cells → B.2.1 ≤ t0 + R.slots → z < s.heap.size →
    (∀ (r : Option AV) (σ' : Hp) (H : Heap) (locs : List Loc) (arr : Array Slot) (kc ks pc' : Nat) (ri : Instr), rIns me.2.2.2.1 ri r → decode me.2.1 pc' = .ok (ri, 1) → Qa r σ' → σ'.1 = B → HI md D dT z b σ' s H → va_S (fun q => z < q) s.heap H locs → σ'.1.1 = n0 + kc → σ'.1.2.1 = t0 + ks → W p l e R s m args below meth c H locs kc ks Qm (F0 m pc' arr ((r.map (cvv z b)).toList))) →
    ∀ (H : Heap) (locs : List Loc) (arr : Array Slot) (kc ks : Nat), HI md D dT z b σ s H → va_S (fun q => z < q) s.heap H locs → LsI z b me.2.2.1 arr ls → σ.1.1 = n0 + kc → σ.1.2.1 = t0 + ks → W p l e R s m args below meth c H locs kc ks Qm (F0 m pc arr (st.map (cvv z b)))
/-! one instruction, goal first -/
def tgts (pc : Nat) (x : Int32) (K : Nat → Prop) : Int → List Int → Prop
  | _, [] => True
  | lo, o :: t => (x = Int32.ofInt lo → K (jmp pc o)) ∧ tgts pc x K (lo + 1) t
def lkts (pc : Nat) (x : Int32) (K : Nat → Prop) (d : Int) : List (Int × Int) → Prop
  | [] => K (jmp pc d)
  | (a, o) :: t => (x = Int32.ofInt a → K (jmp pc o)) ∧ (¬ x = Int32.ofInt a → lkts pc x K d t)
def cnd (c : ClassFile.Cond) (x y : Int32) : Prop := match c with
  | .eq => x = y
  | .ne => ¬ x = y
  | .lt => x < y
  | .ge => y ≤ x
  | .gt => y < x
  | .le => x ≤ y
def ncnd (c : ClassFile.Cond) (x y : Int32) : Prop := match c with
  | .eq => ¬ x = y
  | .ne => x = y
  | .lt => ¬ x < y
  | .ge => ¬ y ≤ x
  | .gt => ¬ y < x
  | .le => ¬ x ≤ y
def akind (t : ArrayType) : Nat := match t with
  | .int => 20
  | .char => 21
  | .long => 22
  | _ => 97
def okind (ci : Nat) : Nat := match ci with
  | 7 => 23
  | 3 => 24
  | 1 => 25
  | _ => 97
def nps (me : MEnt) : Nat := match parseMethodDescriptor me.1.desc with
  | some d => d.parameters.length
  | none => 0
def calM (md : Bool) (d mj : Nat) (ret : Option FieldType) (as : List AV) (σ : Hp) (B : Nat × Nat × Nat) (rest : List AV) (K : List AV → Hp → Prop) : Prop := match ret with
  | none => CalV md d mj as σ B fun σ' => K rest σ'
  | some .long => CalL md d mj as σ B fun y σ' => K (vl y :: rest) σ'
  | some _ => CalI md d mj as σ B fun x σ' => K (vi x :: rest) σ'
def callP (md : Bool) (d : Nat) (mj : Nat) (ret : Option FieldType) (as : List AV) (σ : Hp) (B : Nat × Nat × Nat) (rest : List AV) (K : List AV → Hp → Prop) : Prop := match d with
  | 0 => False
  | d + 1 => bif Nat.ble (stw rest) 8 then calM md d mj ret as σ B rest K else False
def pcT : List Nat := [3, 2, 1, 3, 4, 3, 3, 0, 2, 4, 2, 4, 1, 1, 2, 1, 2, 3, 4, 2, 2, 1, 3, 3, 3, 3, 3, 3, 0, 2, 2, 2, 1, 1, 2, 0, 0, 0, 0, 0, 0, 0, 1, 2, 1, 0, 0, 0, 0, 3, 1, 1, 0, 1, 1, 1, 4, 2, 0, 1, 1, 0, 2, 4, 1, 2, 3, 1, 0, 1, 0, 1, 1, 1, 2, 2, 3, 3, 3, 0, 0, 1, 2, 3, 1, 2, 2, 3, 2, 0, 2, 0, 1, 1, 2, 2, 1, 2, 1, 0, 2, 2, 1, 1, 1, 5, 0, 0, 3, 1, 1, 1, 2, 1, 0, 0, 1, 0, 0, 0, 0, 0, 0, 0, 0, 0, 0, 0, 0, 0, 1, 0, 1, 0, 0, 4, 1, 1, 2, 1, 1, 0, 1, 2, 2, 2, 2, 4, 3, 3, 4, 1, 2, 2, 2, 5, 1, 0, 2, 2, 3, 3, 3, 1, 0, 1, 0, 4, 0, 1, 1, 2, 3, 0, 0, 1, 2, 2, 2, 3, 1, 1, 1, 2, 1, 1, 2, 2, 2, 2, 3, 3, 2, 2, 3, 1, 3, 2, 2, 2, 0, 2, 1, 0, 1]
def retT : List (Option FieldType) := [some FieldType.long, some FieldType.long, some FieldType.long, some FieldType.long, some FieldType.int, some FieldType.int, some FieldType.int, none, none, none, some FieldType.boolean, none, some FieldType.int, some FieldType.int, some FieldType.int, none, none, none, none, some FieldType.int, some FieldType.int, none, none, none, none, none, none, none, none, some FieldType.int, some FieldType.int, none, some FieldType.boolean, some FieldType.boolean, some FieldType.boolean, some FieldType.boolean, some FieldType.boolean, some FieldType.boolean, some FieldType.boolean, some FieldType.boolean, some FieldType.boolean, some FieldType.boolean, none, none, some FieldType.int, some FieldType.boolean, some FieldType.boolean, some FieldType.boolean, none, none, none, none, none, none, some FieldType.int, some FieldType.int, some FieldType.int, none, none, none, some FieldType.boolean, some FieldType.int, some FieldType.int, none, none, some FieldType.int, none, none, none, some FieldType.int, some FieldType.int, some FieldType.int, some FieldType.int, some FieldType.int, some FieldType.int, some FieldType.int, some FieldType.int, some FieldType.int, some FieldType.int, some FieldType.int, some FieldType.int, some FieldType.int, some FieldType.int, some FieldType.int, some FieldType.int, some FieldType.int, some FieldType.int, some FieldType.int, some FieldType.int, some FieldType.int, some FieldType.int, some FieldType.int, some FieldType.int, some FieldType.boolean, some FieldType.boolean, some FieldType.boolean, some FieldType.boolean, some FieldType.boolean, some FieldType.int, some FieldType.int, some FieldType.boolean, some FieldType.int, some FieldType.int, some FieldType.int, some FieldType.int, some FieldType.int, none, none, some FieldType.boolean, some FieldType.boolean, some FieldType.int, some FieldType.boolean, some FieldType.int, some FieldType.int, some FieldType.int, some FieldType.int, some FieldType.boolean, some FieldType.boolean, some FieldType.boolean, none, some FieldType.boolean, some FieldType.boolean, some FieldType.boolean, some FieldType.boolean, some FieldType.boolean, some FieldType.boolean, some FieldType.boolean, some FieldType.boolean, some FieldType.boolean, some FieldType.int, some FieldType.boolean, some FieldType.int, some FieldType.int, none, some FieldType.int, some FieldType.boolean, none, none, none, some FieldType.int, some FieldType.int, some FieldType.int, some FieldType.int, some FieldType.int, some FieldType.int, some FieldType.int, some FieldType.int, none, none, none, none, none, none, some FieldType.int, none, none, none, none, some FieldType.int, some FieldType.boolean, some FieldType.int, some FieldType.int, some FieldType.int, some FieldType.int, some FieldType.int, some FieldType.int, some FieldType.int, some FieldType.boolean, some FieldType.int, some FieldType.boolean, some FieldType.int, some FieldType.int, some FieldType.int, some FieldType.boolean, some FieldType.boolean, some FieldType.int, none, none, some FieldType.boolean, some FieldType.int, some FieldType.int, some FieldType.int, some FieldType.int, some FieldType.int, some FieldType.int, some FieldType.int, some FieldType.int, some FieldType.int, some FieldType.int, some FieldType.int, some FieldType.boolean, none, none, some FieldType.boolean, some FieldType.int, none, none, some FieldType.boolean, none, some FieldType.int, some FieldType.int, some FieldType.int, some FieldType.int, some FieldType.int, some FieldType.boolean]
def ocT : List Nat := [0, 0, 0, 0, 0, 0, 0, 1, 1, 1, 1, 1, 1, 1, 1, 2, 2, 2, 2, 2, 2, 3, 3, 3, 3, 3, 3, 3, 4, 4, 4, 4, 4, 4, 4, 4, 4, 4, 4, 4, 4, 4, 5, 5, 5, 5, 5, 5, 6, 6, 6, 6, 6, 6, 6, 6, 6, 6, 7, 7, 7, 7, 7, 7, 7, 7, 7, 7, 8, 8, 8, 8, 8, 8, 8, 8, 8, 8, 8, 8, 8, 8, 8, 8, 8, 8, 8, 8, 8, 8, 8, 8, 8, 8, 8, 8, 8, 8, 8, 8, 8, 8, 8, 8, 8, 8, 8, 9, 9, 9, 9, 9, 9, 9, 9, 9, 9, 9, 9, 9, 9, 9, 9, 9, 9, 9, 9, 9, 9, 9, 9, 9, 9, 9, 9, 9, 9, 9, 9, 9, 9, 9, 9, 9, 9, 9, 9, 9, 9, 9, 9, 9, 9, 9, 9, 9, 9, 9, 9, 9, 9, 9, 9, 9, 9, 9, 9, 9, 9, 9, 9, 9, 9, 9, 9, 9, 9, 9, 9, 9, 9, 9, 9, 9, 9, 9, 9, 9, 9, 9, 9, 9, 9, 9, 9, 9, 9, 9, 9, 9, 9, 9, 9, 9, 10]
def one (md ini : Bool) (d : Nat) (B : Nat × Nat × Nat) (ret : Option FieldType) (Qa : Option AV → Hp → Prop) (oc : Nat) (ins : Instr) (pc : Nat) (ls : Ls) (st : List AV) (σ : Hp) (K : Nat → Ls → List AV → Hp → Prop) : Prop :=
  match ins with
  | .iconst n => K (pc + 1) ls (vi (Int32.ofInt n) :: st) σ
  | .bipush n => K (pc + 2) ls (vi (Int8.ofInt n).toInt32 :: st) σ
  | .sipush n => K (pc + 3) ls (vi (Int16.ofInt n).toInt32 :: st) σ
  | .lconst n => K (pc + 1) ls (vl (Int64.ofNat (n : Nat)) :: st) σ
  | .ldc i => (match ick oc i with
    | some v => K (pc + 2) ls (vi v :: st) σ
    | none => False)
  | .ldc2_w i => (match lck oc i with
    | some v => K (pc + 3) ls (vl v :: st) σ
    | none => False)
  | .iload_n k => (match ls[(k : Nat)]? with
    | some (some (.inl x)) => K (pc + 1) ls (vi x :: st) σ
    | _ => False)
  | .iload k => (match ls[k]? with
    | some (some (.inl x)) => K (pc + 2) ls (vi x :: st) σ
    | _ => False)
  | .lload_n k => (match ls[(k : Nat)]? with
    | some (some (.inr (.inl x))) => K (pc + 1) ls (vl x :: st) σ
    | _ => False)
  | .lload k => (match ls[k]? with
    | some (some (.inr (.inl x))) => K (pc + 2) ls (vl x :: st) σ
    | _ => False)
  | .aload_n k => (match ls[(k : Nat)]? with
    | some (some (.inr (.inr (some a)))) => K (pc + 1) ls (.inr (.inr (some a)) :: st) σ
    | _ => False)
  | .aload k => (match ls[k]? with
    | some (some (.inr (.inr (some a)))) => K (pc + 2) ls (.inr (.inr (some a)) :: st) σ
    | _ => False)
  | .istore_n k => (match st with
    | .inl x :: r => bif Nat.blt (k : Nat) ls.length then K (pc + 1) (sto1 ls k (vi x)) r σ else False
    | _ => False)
  | .istore k => (match st with
    | .inl x :: r => bif Nat.blt k ls.length then K (pc + 2) (sto1 ls k (vi x)) r σ else False
    | _ => False)
  | .lstore_n k => (match st with
    | .inr (.inl x) :: r => bif Nat.blt ((k : Nat) + 1) ls.length then K (pc + 1) (sto2 ls k (vl x)) r σ else False
    | _ => False)
  | .lstore k => (match st with
    | .inr (.inl x) :: r => bif Nat.blt (k + 1) ls.length then K (pc + 2) (sto2 ls k (vl x)) r σ else False
    | _ => False)
  | .astore_n k => (match st with
    | .inr (.inr (some a)) :: r => bif Nat.blt (k : Nat) ls.length then K (pc + 1) (sto1 ls k (.inr (.inr (some a)))) r σ else False
    | _ => False)
  | .astore k => (match st with
    | .inr (.inr (some a)) :: r => bif Nat.blt k ls.length then K (pc + 2) (sto1 ls k (.inr (.inr (some a)))) r σ else False
    | _ => False)
  | .iinc k n => (match ls[k]? with
    | some (some (.inl x)) => K (pc + 3) (sto1 ls k (vi (x + Int32.ofInt n))) st σ
    | _ => False)
  | .iadd => (match st with
    | .inl y :: .inl x :: r => K (pc + 1) ls (vi (x + y) :: r) σ
    | _ => False)
  | .isub => (match st with
    | .inl y :: .inl x :: r => K (pc + 1) ls (vi (x - y) :: r) σ
    | _ => False)
  | .imul => (match st with
    | .inl y :: .inl x :: r => K (pc + 1) ls (vi (x * y) :: r) σ
    | _ => False)
  | .iand => (match st with
    | .inl y :: .inl x :: r => K (pc + 1) ls (vi (x &&& y) :: r) σ
    | _ => False)
  | .ior => (match st with
    | .inl y :: .inl x :: r => K (pc + 1) ls (vi (x ||| y) :: r) σ
    | _ => False)
  | .ixor => (match st with
    | .inl y :: .inl x :: r => K (pc + 1) ls (vi (x ^^^ y) :: r) σ
    | _ => False)
  | .idiv => (match st with
    | .inl y :: .inl x :: r => ¬ y = 0 ∧ K (pc + 1) ls (vi (x / y) :: r) σ
    | _ => False)
  | .irem => (match st with
    | .inl y :: .inl x :: r => ¬ y = 0 ∧ K (pc + 1) ls (vi (x - x / y * y) :: r) σ
    | _ => False)
  | .ishl => (match st with
    | .inl y :: .inl x :: r => K (pc + 1) ls (vi (x <<< (y &&& 31)) :: r) σ
    | _ => False)
  | .ishr => (match st with
    | .inl y :: .inl x :: r => K (pc + 1) ls (vi (x >>> (y &&& 31)) :: r) σ
    | _ => False)
  | .iushr => (match st with
    | .inl y :: .inl x :: r => K (pc + 1) ls (vi (x.toUInt32 >>> (y.toUInt32 &&& Int32.toUInt32 31)).toInt32 :: r) σ
    | _ => False)
  | .land => (match st with
    | .inr (.inl y) :: .inr (.inl x) :: r => K (pc + 1) ls (vl (x &&& y) :: r) σ
    | _ => False)
  | .lor => (match st with
    | .inr (.inl y) :: .inr (.inl x) :: r => K (pc + 1) ls (vl (x ||| y) :: r) σ
    | _ => False)
  | .lshl => (match st with
    | .inl y :: .inr (.inl x) :: r => K (pc + 1) ls (vl (x <<< (y.toInt64 &&& 63)) :: r) σ
    | _ => False)
  | .lshr => (match st with
    | .inl y :: .inr (.inl x) :: r => K (pc + 1) ls (vl (x >>> (y.toInt64 &&& 63)) :: r) σ
    | _ => False)
  | .lushr => (match st with
    | .inl y :: .inr (.inl x) :: r => K (pc + 1) ls (vl (x.toUInt64 >>> (y.toInt64.toUInt64 &&& Int64.toUInt64 63)).toInt64 :: r) σ
    | _ => False)
  | .lcmp => (match st with
    | .inr (.inl y) :: .inr (.inl x) :: r => K (pc + 1) ls (vi (lg_cmp x y) :: r) σ
    | _ => False)
  | .i2l => (match st with
    | .inl x :: r => K (pc + 1) ls (vl x.toInt64 :: r) σ
    | _ => False)
  | .l2i => (match st with
    | .inr (.inl x) :: r => K (pc + 1) ls (vi x.toInt32 :: r) σ
    | _ => False)
  | .i2c => (match st with
    | .inl x :: r => K (pc + 1) ls (vi (x.toUInt32 % 65536).toInt32 :: r) σ
    | _ => False)
  | .dup => (match st with
    | .inl x :: r => K (pc + 1) ls (vi x :: vi x :: r) σ
    | .inr (.inr a) :: r => K (pc + 1) ls (.inr (.inr a) :: .inr (.inr a) :: r) σ
    | _ => False)
  | .dup2 => (match st with
    | .inr (.inl x) :: r => K (pc + 1) ls (vl x :: vl x :: r) σ
    | .inl x :: .inl y :: r => K (pc + 1) ls (vi x :: vi y :: vi x :: vi y :: r) σ
    | .inl x :: .inr (.inr a) :: r => K (pc + 1) ls (vi x :: .inr (.inr a) :: vi x :: .inr (.inr a) :: r) σ
    | _ => False)
  | .pop => (match st with
    | .inl _ :: r => K (pc + 1) ls r σ
    | .inr (.inr _) :: r => K (pc + 1) ls r σ
    | _ => False)
  | .goto o => K (jmp pc o) ls st σ
  | .ifCond c o => (match st with
    | .inl x :: r => (cnd c x 0 → K (jmp pc o) ls r σ) ∧ (ncnd c x 0 → K (pc + 3) ls r σ)
    | _ => False)
  | .if_icmp c o => (match st with
    | .inl y :: .inl x :: r => (cnd c x y → K (jmp pc o) ls r σ) ∧ (ncnd c x y → K (pc + 3) ls r σ)
    | _ => False)
  | .ifnonnull o => (match st with
    | .inr (.inr a) :: r => (∀ f p, a = some (f, p) → K (jmp pc o) ls r σ) ∧ (a = none → K (pc + 3) ls r σ)
    | _ => False)
  | .tableswitch dflt lo hi offs => (match st with
    | .inl x :: r => tgts pc x (fun t => K t ls r σ) lo offs.toList ∧ ((x.toInt < lo ∨ hi < x.toInt) → K (jmp pc dflt) ls r σ)
    | _ => False)
  | .lookupswitch dflt ps => (match st with
    | .inl x :: r => lkts pc x (fun t => K t ls r σ) dflt ps.toList
    | _ => False)
  | .getfield i => (match st with
    | .inr (.inr (some (f, p))) :: r => (match flk oc i with
      | some (ci, k) => bif Nat.beq (fkd f).1 ci then acc md σ f p fun p' => K (pc + 3) ls (rdf md σ ci f p' k :: r) σ else False
      | none => False)
    | _ => False)
  | .putfield i => (match flk oc i with
    | some (ci, k) => bif (! ffin ci k) || (ini && Nat.beq oc ci) then (match ftyp ci k with
      | 0 => (match st with
        | .inl x :: .inr (.inr (some (f, p))) :: r => bif Nat.beq (fkd f).1 ci then acc md σ f p fun p' => K (pc + 3) ls r (setI σ f p' k x) else False
        | _ => False)
      | 3 => (match st with
        | .inl x :: .inr (.inr (some (f, p))) :: r => bif Nat.beq (fkd f).1 ci then (x = 0 ∨ x = 1) ∧ acc md σ f p fun p' => K (pc + 3) ls r (setI σ f p' k x) else False
        | _ => False)
      | 1 => (match st with
        | .inr (.inl x) :: .inr (.inr (some (f, p))) :: r => bif Nat.beq (fkd f).1 ci then acc md σ f p fun p' => K (pc + 3) ls r (setL σ f p' k x) else False
        | _ => False)
      | 2 => (match st with
        | .inr (.inr a) :: .inr (.inr (some (f, p))) :: r => bif Nat.beq (fkd f).1 ci then acc md σ f p fun p' => (match md, srf f p' k with
          | true, some _ => False
          | _, _ => K (pc + 3) ls r (setR σ f p' k a)) else False
        | _ => False)
      | _ => False) else False
    | none => False)
  | .iaload => (match st with
    | .inl i :: .inr (.inr (some (0, _))) :: r => vp_in i σ.1.2.2 ∧ K (pc + 1) ls (vi (hI σ 0 0 i.toNatClampNeg) :: r) σ
    | .inl i :: .inr (.inr (some (f, p))) :: r => bif Nat.beq (fkd f).1 20 then acc md σ f p fun p' => vp_in i (fkd f).2 ∧ K (pc + 1) ls (vi (hI σ f p' i.toNatClampNeg) :: r) σ else False
    | _ => False)
  | .caload => (match st with
    | .inl i :: .inr (.inr (some (f, p))) :: r => bif Nat.beq (fkd f).1 21 then acc md σ f p fun p' => vp_in i (fkd f).2 ∧ K (pc + 1) ls (vi (hI σ f p' i.toNatClampNeg) :: r) σ else False
    | _ => False)
  | .laload => (match st with
    | .inl i :: .inr (.inr (some (f, p))) :: r => bif Nat.beq (fkd f).1 22 then acc md σ f p fun p' => vp_in i (fkd f).2 ∧ K (pc + 1) ls (vl (hL σ f p' i.toNatClampNeg) :: r) σ else False
    | _ => False)
  | .aaload => (match st with
    | .inl i :: .inr (.inr (some (f, p))) :: r => bif Nat.blt 22 (fkd f).1 && Nat.blt (fkd f).1 26 then acc md σ f p fun p' => vp_in i (fkd f).2 ∧ K (pc + 1) ls (.inr (.inr (rdr md σ f p' i.toNatClampNeg)) :: r) σ else False
    | _ => False)
  | .iastore => (match st with
    | .inl x :: .inl i :: .inr (.inr (some (f, p))) :: r => bif Nat.beq (fkd f).1 20 then acc md σ f p fun p' => vp_in i (fkd f).2 ∧ K (pc + 1) ls r (setI σ f p' i.toNatClampNeg x) else False
    | _ => False)
  | .castore => (match st with
    | .inl x :: .inl i :: .inr (.inr (some (f, p))) :: r => bif Nat.beq (fkd f).1 21 then acc md σ f p fun p' => vp_in i (fkd f).2 ∧ K (pc + 1) ls r (setI σ f p' i.toNatClampNeg (vp_nar .char x)) else False
    | _ => False)
  | .lastore => (match st with
    | .inr (.inl x) :: .inl i :: .inr (.inr (some (f, p))) :: r => bif Nat.beq (fkd f).1 22 then acc md σ f p fun p' => vp_in i (fkd f).2 ∧ K (pc + 1) ls r (setL σ f p' i.toNatClampNeg x) else False
    | _ => False)
  | .aastore => (match st with
    | .inr (.inr (some (g, q))) :: .inl i :: .inr (.inr (some (f, p))) :: r => bif Nat.blt (fkd g).1 20 && (Nat.beq (fkd f).1 (okind (fkd g).1) && Nat.blt (fkd f).1 26) then acc md σ f p fun p' => acc md σ g q fun q' => vp_in i (fkd f).2 ∧ (match md, srf f p' i.toNatClampNeg with
      | true, some _ => False
      | _, _ => K (pc + 1) ls r (setR σ f p' i.toNatClampNeg (some (g, q')))) else False
    | _ => False)
  | .arraylength => (match st with
    | .inr (.inr (some (0, _))) :: r => K (pc + 1) ls (vi (Int32.ofNat σ.1.2.2) :: r) σ
    | .inr (.inr (some (f, p))) :: r => bif Nat.blt 19 (fkd f).1 && Nat.blt (fkd f).1 26 then acc md σ f p fun _ => K (pc + 1) ls (vi (Int32.ofNat (fkd f).2) :: r) σ else False
    | _ => False)
  | .new i => (match md, clk oc i with
    | false, some ci => fkd (fa σ.1.1).1 = (ci, (ftT.getD ci []).length) ∧ σ.1.1 + 1 ≤ B.1 ∧ σ.1.2.1 + (ftT.getD ci []).length ≤ B.2.1 ∧ K (pc + 3) ls (.inr (.inr (some (fa σ.1.1))) :: st) (zap σ (fa σ.1.1).1 (fa σ.1.1).2 (ftT.getD ci []).length)
    | _, _ => False)
  | .newarray t => (match md, st with
    | false, .inl n :: r => ¬ n < 0 ∧ fkd (fa σ.1.1).1 = (akind t, n.toNatClampNeg) ∧ σ.1.1 + 1 ≤ B.1 ∧ σ.1.2.1 + n.toNatClampNeg ≤ B.2.1 ∧ K (pc + 2) ls (.inr (.inr (some (fa σ.1.1))) :: r) (zap σ (fa σ.1.1).1 (fa σ.1.1).2 n.toNatClampNeg)
    | _, _ => False)
  | .anewarray i => (match md, clk oc i, st with
    | false, some ci, .inl n :: r => ¬ n < 0 ∧ fkd (fa σ.1.1).1 = (okind ci, n.toNatClampNeg) ∧ σ.1.1 + 1 ≤ B.1 ∧ σ.1.2.1 + n.toNatClampNeg ≤ B.2.1 ∧ K (pc + 3) ls (.inr (.inr (some (fa σ.1.1))) :: r) (zap σ (fa σ.1.1).1 (fa σ.1.1).2 n.toNatClampNeg)
    | _, _, _ => False)
  | .ireturn => (match ret, st with
    | some .boolean, [.inl x] => (x = 0 ∨ x = 1) ∧ Qa (some (vi x)) σ ∧ σ.1 = B
    | some .int, [.inl x] => Qa (some (vi x)) σ ∧ σ.1 = B
    | _, _ => False)
  | .lreturn => (match ret, st with
    | some .long, [.inr (.inl x)] => Qa (some (vl x)) σ ∧ σ.1 = B
    | _, _ => False)
  | .return_ => (match ret, st with
    | none, [] => Qa none σ ∧ σ.1 = B
    | _, _ => False)
  | .invokevirtual i => (match mlk oc i with
    | some (0, mj) => (match st.drop (pcT.getD mj 0) with
      | .inr (.inr (some (f, p))) :: r => bif Nat.beq (fkd f).1 (ocT.getD mj 99) then acc md σ f p fun p' => callP md d mj (retT.getD mj none) (vr f p' :: (st.take (pcT.getD mj 0)).reverse) σ B r fun st' σ' => K (pc + 3) ls st' σ' else False
      | _ => False)
    | _ => False)
  | .invokestatic i => (match mlk oc i with
    | some (1, mj) => bif Nat.ble (pcT.getD mj 0) st.length then callP md d mj (retT.getD mj none) (st.take (pcT.getD mj 0)).reverse σ B (st.drop (pcT.getD mj 0)) fun st' σ' => K (pc + 3) ls st' σ' else False
    | some (3, mj) => bif Nat.ble (pcT.getD mj 0) st.length then callP md d mj (retT.getD mj none) (st.take (pcT.getD mj 0)).reverse σ B (st.drop (pcT.getD mj 0)) fun st' σ' => K (pc + 3) ls st' σ' else False
    | some (6, _) => (match d, st with
      | _ + 1, .inl n :: .inl dp :: .inr (.inr (some (g, q))) :: .inl sp :: .inr (.inr (some (f, p))) :: r => bif Nat.ble (stw r) 8 && (Nat.beq (fkd f).1 (fkd g).1 && (Nat.blt 19 (fkd f).1 && Nat.blt (fkd f).1 23)) then acc md σ f p fun p' => acc md σ g q fun q' => ¬ sp < 0 ∧ ¬ dp < 0 ∧ ¬ n < 0 ∧ sp.toNatClampNeg + n.toNatClampNeg ≤ (fkd f).2 ∧ dp.toNatClampNeg + n.toNatClampNeg ≤ (fkd g).2 ∧ K (pc + 3) ls r (bif Nat.beq (fkd f).1 22 then cpL σ f p' sp.toNatClampNeg g q' dp.toNatClampNeg n.toNatClampNeg else cpI σ f p' sp.toNatClampNeg g q' dp.toNatClampNeg n.toNatClampNeg) else False
      | _, _ => False)
    | some (7, _) => (match d, st with
      | _ + 1, .inl y :: .inl x :: r => bif Nat.ble (stw r) 8 then σ.1.1 ≤ B.1 ∧ σ.1.2.1 ≤ B.2.1 ∧ K (pc + 3) ls (vi (if y < x then y else x) :: r) σ else False
      | _, _ => False)
    | some (8, _) => (match d, st with
      | _ + 1, .inl x :: r => bif Nat.ble (stw r) 8 then σ.1.1 ≤ B.1 ∧ σ.1.2.1 ≤ B.2.1 ∧ K (pc + 3) ls (vi (if 0 ≤ x then x else 0 - x) :: r) σ else False
      | _, _ => False)
    | _ => False)
  | .invokespecial i => (match mlk oc i with
    | some (5, _) => (match d, st with
      | _ + 1, .inr (.inr (some _)) :: r => bif Nat.ble (stw r) 8 then K (pc + 3) ls r σ else False
      | _, _ => False)
    | some (2, mj) => (match st.drop (pcT.getD mj 0) with
      | .inr (.inr (some a)) :: r => callP md d mj none (.inr (.inr (some a)) :: (st.take (pcT.getD mj 0)).reverse) σ B r fun st' σ' => K (pc + 3) ls st' σ'
      | _ => False)
    | some (4, mj) => (match st.drop (pcT.getD mj 0) with
      | .inr (.inr (some a)) :: r => callP md d mj none (.inr (.inr (some a)) :: (st.take (pcT.getD mj 0)).reverse) σ B r fun st' σ' => K (pc + 3) ls st' σ'
      | _ => False)
    | _ => False)
  | _ => False
/-- up to n instructions, ending at the places of cut -/
def wp (md ini : Bool) (d mi : Nat) (B : Nat × Nat × Nat) (ret : Option FieldType) (Qa : Option AV → Hp → Prop) (oc : Nat) (tb : List (Nat × Instr × Nat)) (cut : List Nat) : Nat → Nat → Ls → List AV → Hp → Prop
  | 0, pc, ls, st, σ => Sat md d mi B Qa pc ls st σ
  | n + 1, pc, ls, st, σ => match lkI tb pc with
    | none => False
    | some q => one md ini d B ret Qa oc q.1 pc ls st σ fun pc' ls' st' σ' => bif cut.elem pc' then Sat md d mi B Qa pc' ls' st' σ' else wp md ini d mi B ret Qa oc tb cut n pc' ls' st' σ'
