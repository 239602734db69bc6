/-! the expansion of a page, as a machine over trees: a stack of (page, line, shift), and lines, pages of origin, headings, includes that were replaced -/
abbrev XA : Type := Nat × Int32 × List Hd × Nat
abbrev XS : Type := List (Nat × Nat × Nat)
def onSt (q : Nat) (st : XS) : Bool := st.any fun e => Nat.beq e.1 q
def nOwn : List Hd → Nat
  | [] => 0
  | x :: r => (match x.2.2.2 with
    | none => 0
    | some _ => 1) + nOwn r
def secX (rest : XS) (hs : List Hd) : Option Nat := match rest with
  | [] => some (nOwn hs)
  | _ :: _ => none
def xLine (P : Nat → List Line) (p j add : Nat) (rest : XS) (l : Line) (x : XA) : XS × XA := match l with
  | .inl (v, w) => ((p, j + 1, add) :: rest, x.1 + 1, x.2.1 ||| bit p, x.2.2.1 ++ [(v + add, p, (w, cntN w x.2.2.1), secX rest x.2.2.1)], x.2.2.2)
  | .inr (.inl (q, s)) => if P q ≠ [] ∧ onSt q ((p, j, add) :: rest) = false ∧ x.2.2.2 < 200 then ((q, 0, add + s.getD 0) :: (p, j + 1, add) :: rest, x.1, x.2.1, x.2.2.1, x.2.2.2 + 1) else ((p, j + 1, add) :: rest, x)
  | .inr (.inr _) => ((p, j + 1, add) :: rest, x.1 + 1, x.2.1 ||| bit p, x.2.2)
def xStep (P : Nat → List Line) (c : XS × XA) : Option (XS × XA) := match c with
  | ([], _) => none
  | ((p, j, add) :: rest, x) => if 100 ≤ x.1 then none else match (P p)[j]? with
    | none => some (rest, x)
    | some l => some (xLine P p j add rest l x)
def xIt (P : Nat → List Line) : Nat → XS × XA → Option (XS × XA)
  | 0, c => some c
  | n + 1, c => match xStep P c with
    | none => none
    | some c' => xIt P n c'
def xTo (P : Nat → List Line) (c c' : XS × XA) : Prop := ∃ n, xIt P n c = some c'
theorem xTo.rfl' {P : Nat → List Line} (c : XS × XA) : xTo P c c := ⟨0, rfl⟩
theorem xIt_s {P : Nat → List Line} {n : Nat} {a c : XS × XA} (h : xStep P a = some c) : xIt P (n + 1) a = xIt P n c := by
  rw [xIt, h]
theorem xIt_add {P : Nat → List Line} : ∀ (n m : Nat) (a b : XS × XA), xIt P n a = some b → xIt P (n + m) a = xIt P m b := by
  intro n
  induction n with
  | zero => intro m a b h; cases h; rw [Nat.zero_add]
  | succ n ih =>
    intro m a b h
    rw [show n + 1 + m = (n + m) + 1 by omega]
    cases e : xStep P a with
    | none => rw [xIt, e] at h; cases h
    | some c =>
      rw [xIt_s e] at h ⊢
      exact ih m c b h
theorem xTo.tr {P : Nat → List Line} {a b c : XS × XA} (h : xTo P a b) (g : xTo P b c) : xTo P a c := by
  obtain ⟨n, h⟩ := h
  obtain ⟨m, g⟩ := g
  exact ⟨n + m, by rw [xIt_add n m a b h]; exact g⟩
theorem xTo.one {P : Nat → List Line} {a b : XS × XA} (h : xStep P a = some b) : xTo P a b := ⟨1, by unfold xIt; rw [h]; rfl⟩
/-- the end of a run is one alone -/
theorem xFin_one {P : Nat → List Line} : ∀ (n m : Nat) (a b c : XS × XA), xIt P n a = some b → xStep P b = none → xIt P m a = some c → xStep P c = none → n = m ∧ b = c := by
  intro n
  induction n with
  | zero =>
    intro m a b c h1 h2 h3 h4
    cases h1
    cases m with
    | zero => cases h3; exact ⟨rfl, rfl⟩
    | succ m => unfold xIt at h3; rw [h2] at h3; cases h3
  | succ n ih =>
    intro m a b c h1 h2 h3 h4
    unfold xIt at h1
    cases e : xStep P a with
    | none => rw [e] at h1; cases h1
    | some a' =>
      rw [e] at h1
      cases m with
      | zero => cases h3; rw [e] at h4; cases h4
      | succ m =>
        unfold xIt at h3
        rw [e] at h3
        obtain ⟨q1, q2⟩ := ih m a' b c h1 h2 h3 h4
        exact ⟨by omega, q2⟩
theorem nOwn_app (a b : List Hd) : nOwn (a ++ b) = nOwn a + nOwn b := by
  induction a with
  | nil => show nOwn b = 0 + nOwn b; omega
  | cons x r ih =>
    show _ + nOwn (r ++ b) = _ + nOwn r + nOwn b
    omega
theorem onSt_cons (q p j add : Nat) (rest : XS) : onSt q ((p, j, add) :: rest) = (Nat.beq p q || onSt q rest) := rfl
/-- pages on a stack, each once: there are at most 12 -/
def okSt (st : XS) : Prop := (∀ e ∈ st, e.1 < 12) ∧ (st.map fun e => e.1).Nodup
theorem okSt_len {st : XS} (h : okSt st) : st.length ≤ 12 := by
  have := fb_holes 12 st.length (fun i => (st.map fun e => e.1).getD i 0) (fun i hi => ?_) (fun i j hij hj e => ?_)
  · exact this
  · rw [List.getD_eq_getElem?_getD, List.getElem?_map, List.getElem?_eq_getElem hi]
    exact h.1 _ (List.getElem_mem hi)
  · have hi : i < (st.map fun e => e.1).length := by rw [List.length_map]; omega
    have hj' : j < (st.map fun e => e.1).length := by rw [List.length_map]; exact hj
    have e : (st.map fun e => e.1).getD i 0 = (st.map fun e => e.1).getD j 0 := e
    rw [List.getD_eq_getElem?_getD, List.getD_eq_getElem?_getD, List.getElem?_eq_getElem hi, List.getElem?_eq_getElem hj'] at e
    have := (List.getElem_inj h.2).mp e
    omega
theorem onSt_f {q : Nat} {st : XS} : onSt q st = false ↔ ∀ e ∈ st, e.1 ≠ q := by
  unfold onSt
  rw [List.any_eq_false]
  constructor
  · intro h e he g
    exact h e he (by rw [g]; exact Nat.beq_refl q)
  · intro h e he g
    exact h e he (Nat.eq_of_beq_eq_true g)
theorem okSt_push {q j add : Nat} {st : XS} (h : okSt st) (hq : q < 12) (hn : onSt q st = false) : okSt ((q, j, add) :: st) := by
  refine ⟨fun e he => ?_, ?_⟩
  · cases he with
    | head => exact hq
    | tail _ g => exact h.1 e g
  · show (q :: st.map fun e => e.1).Nodup
    refine List.nodup_cons.mpr ⟨fun g => ?_, h.2⟩
    obtain ⟨e, he, e1⟩ := List.mem_map.mp g
    exact onSt_f.mp hn e he e1
theorem okSt_tail {e : Nat × Nat × Nat} {st : XS} (h : okSt (e :: st)) : okSt st := ⟨fun x hx => h.1 x (List.mem_cons_of_mem _ hx), (List.nodup_cons.mp h.2).2⟩
