/-! what holds of the machine on its way; lines of a text by their places -/
def stOk (P : Nat → List Line) : XS → Prop
  | [] => True
  | e :: rest => e.2.2 ≤ 2 * rest.length ∧ e.2.1 ≤ (P e.1).length ∧ P e.1 ≠ [] ∧ stOk P rest
def oB (P : Nat → List Line) (n : Nat) : XS → Prop
  | [] => True
  | [e] => n = nHd ((P e.1).take e.2.1)
  | _ :: e :: rest => oB P n (e :: rest)
def MI (P : Nat → List Line) (st : XS) (x : XA) : Prop := okSt st ∧ stOk P st ∧ oB P (nOwn x.2.2.1) st ∧ x.2.2.1.length ≤ x.1 ∧ x.1 ≤ 100 ∧ x.2.2.2 ≤ 200
theorem take_s {α : Type} {ls : List α} {j : Nat} {l : α} (h : ls[j]? = some l) : ls.take (j + 1) = ls.take j ++ [l] := by
  rw [List.take_succ, h]
  rfl
theorem split_at {α : Type} {ls : List α} {j : Nat} {l : α} (h : ls[j]? = some l) : ls = ls.take j ++ l :: ls.drop (j + 1) := by
  have hj := All_lt h
  have e : ls[j] = l := by
    rw [List.getElem?_eq_getElem hj] at h
    exact Option.some.inj h
  rw [← e, List.getElem_cons_drop, List.take_append_drop]
theorem nHd_s {ls : List Line} {j : Nat} {l : Line} (h : ls[j]? = some l) : nHd (ls.take (j + 1)) = nHd (ls.take j) + isHd l := by
  rw [take_s h, nHd_app]
  rfl
theorem okSt_top {p j j' add add' : Nat} {rest : XS} (h : okSt ((p, j, add) :: rest)) : okSt ((p, j', add') :: rest) := ⟨fun e he => by
  cases he with
  | head => exact h.1 (p, j, add) List.mem_cons_self
  | tail _ g => exact h.1 e (List.mem_cons_of_mem _ g), h.2⟩
theorem MI_line {P : Nat → List Line} (hP : gP P) {p j add : Nat} {rest : XS} {x : XA} {l : Line} (h : MI P ((p, j, add) :: rest) x) (hx : x.1 < 100) (hl : (P p)[j]? = some l) : MI P (xLine P p j add rest l x).1 (xLine P p j add rest l x).2 := by
  obtain ⟨a1, a2, a3, a4, a5, a6⟩ := h
  have hp : p < 12 := a1.1 (p, j, add) List.mem_cons_self
  have hj := All_lt hl
  have gl : gLine l := (hP p hp).1 l (List.mem_of_getElem? hl)
  have st1 : stOk P ((p, j + 1, add) :: rest) := ⟨a2.1, hj, a2.2.2.1, a2.2.2.2⟩
  have ob : isHd l = 0 → oB P (nOwn x.2.2.1) ((p, j + 1, add) :: rest) := by
    intro e
    cases rest with
    | nil =>
      have a3 : nOwn x.2.2.1 = nHd ((P p).take j) := a3
      show nOwn x.2.2.1 = nHd ((P p).take (j + 1))
      rw [nHd_s hl, e]
      exact a3
    | cons e r => exact a3
  rcases l with ⟨v, w⟩ | ⟨q, s⟩ | es
  · refine ⟨okSt_top a1, st1, ?_, ?_, ?_, a6⟩
    · cases rest with
      | nil =>
        have a3 : nOwn x.2.2.1 = nHd ((P p).take j) := a3
        show nOwn (x.2.2.1 ++ [_]) = nHd ((P p).take (j + 1))
        rw [nHd_s hl, nOwn_app, a3]
        rfl
      | cons e r =>
        show oB P (nOwn (x.2.2.1 ++ [_])) (e :: r)
        rw [nOwn_app]
        exact a3
    · show (x.2.2.1 ++ [_]).length ≤ x.1 + 1
      rw [List.length_append]
      show x.2.2.1.length + 1 ≤ x.1 + 1
      omega
    · show x.1 + 1 ≤ 100
      omega
  · show MI P (if _ then _ else _ : XS × XA).1 (if _ then _ else _ : XS × XA).2
    by_cases c : P q ≠ [] ∧ onSt q ((p, j, add) :: rest) = false ∧ x.2.2.2 < 200
    · rw [if_pos c]
      have hs : s.getD 0 ≤ 2 := by
        cases e : s with
        | none => exact Nat.zero_le 2
        | some y => exact gl.2 y e
      have k1 := a2.1
      refine ⟨okSt_push (okSt_top a1) gl.1 c.2.1, ⟨?_, Nat.zero_le _, c.1, st1⟩, ob rfl, a4, a5, ?_⟩
      · show add + s.getD 0 ≤ 2 * (rest.length + 1)
        have k1 : add ≤ 2 * rest.length := k1
        omega
      · show x.2.2.2 + 1 ≤ 200
        omega
    · rw [if_neg c]
      exact ⟨okSt_top a1, st1, ob rfl, a4, a5, a6⟩
  · refine ⟨okSt_top a1, st1, ob rfl, ?_, ?_, a6⟩
    · show x.2.2.1.length ≤ x.1 + 1
      omega
    · show x.1 + 1 ≤ 100
      omega
theorem oB_tail {P : Nat → List Line} {n : Nat} {e : Nat × Nat × Nat} {rest : XS} (h : oB P n (e :: rest)) : oB P n rest := by
  cases rest with
  | nil => exact True.intro
  | cons e2 r => exact h
theorem oB_le {P : Nat → List Line} (hP : gP P) : ∀ {st : XS} {n : Nat}, oB P n st → okSt st → st ≠ [] → n ≤ 53 := by
  intro st
  induction st with
  | nil => intro n _ _ h; exact absurd rfl h
  | cons e r ih =>
    intro n h ok _
    cases r with
    | nil =>
      have h : n = nHd ((P e.1).take e.2.1) := h
      have he := hP e.1 (ok.1 e List.mem_cons_self)
      have b := nHd_b he.1
      have : nHd (P e.1) = nHd ((P e.1).take e.2.1) + nHd ((P e.1).drop e.2.1) := by rw [← nHd_app, List.take_append_drop]
      have := he.2
      omega
    | cons e2 r => exact ih h (okSt_tail ok) (fun q => by cases q)
theorem tx_line {u : Nat → Int32} : ∀ (dl : List Line) (l : Line) (rl : List Line) (o : Nat), Tx u o (txPg (dl ++ l :: rl)) → Tx u (o + posL dl) (txLine l) ∧ posL dl + (txLine l).length ≤ (txPg (dl ++ l :: rl)).length ∧ (posL dl + (txLine l).length < (txPg (dl ++ l :: rl)).length → u (o + (posL dl + (txLine l).length)) = nI 59) := by
  intro dl
  induction dl with
  | nil =>
    intro l rl o h
    cases rl with
    | nil => exact ⟨h, by show 0 + (txLine l).length ≤ (txLine l).length; omega, fun g => by have g : 0 + (txLine l).length < (txLine l).length := g; omega⟩
    | cons f r =>
      have h : Tx u o (txLine l ++ 59 :: txPg (f :: r)) := h
      obtain ⟨h1, h2, h3⟩ := Tx_app.mp h
      refine ⟨h1, ?_, fun _ => ?_⟩
      · show 0 + (txLine l).length ≤ (txLine l ++ 59 :: txPg (f :: r)).length
        rw [List.length_append]
        omega
      · show u (o + (0 + (txLine l).length)) = nI 59
        rw [Nat.zero_add]
        exact h2
  | cons e dl ih =>
    intro l rl o h
    have e1 : txPg (e :: dl ++ l :: rl) = txLine e ++ 59 :: txPg (dl ++ l :: rl) := by
      cases dl <;> rfl
    rw [e1] at h ⊢
    obtain ⟨h1, h2, h3⟩ := Tx_app.mp h
    obtain ⟨k1, k2, k3⟩ := ih l rl _ h3
    have pe : posL (e :: dl) = (txLine e).length + 1 + posL dl := rfl
    rw [pe, List.length_append, List.length_cons]
    refine ⟨?_, by omega, fun g => ?_⟩
    · rw [show o + ((txLine e).length + 1 + posL dl) = o + (txLine e).length + 1 + posL dl by omega]
      exact k1
    · have := k3 (by omega)
      rw [show o + ((txLine e).length + 1 + posL dl + (txLine l).length) = o + (txLine e).length + 1 + (posL dl + (txLine l).length) by omega]
      exact this
theorem posL_all : ∀ {ls : List Line}, ls ≠ [] → posL ls = (txPg ls).length + 1 := by
  intro ls
  induction ls with
  | nil => intro h; exact absurd rfl h
  | cons l r ih =>
    intro _
    cases r with
    | nil => rfl
    | cons f r =>
      have := ih (fun q => by cases q)
      show (txLine l).length + 1 + posL (f :: r) = (txLine l ++ 59 :: txPg (f :: r)).length + 1
      rw [this, List.length_append, List.length_cons]
      omega
