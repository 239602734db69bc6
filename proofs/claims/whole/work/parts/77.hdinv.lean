/-! what holds of the headings of an expansion -/
def bP (r : Nat) : XS → Prop
  | [] => True
  | [e] => e.1 = r
  | _ :: e :: rest => bP r (e :: rest)
def HdI (P : Nat → List Line) (r : Nat) (hs : List Hd) : Prop := ∀ j y, hs[j]? = some y → y.1 ≤ 27 ∧ y.2.1 < 12 ∧ gAnc y.2.2.1 ∧ ∀ s, y.2.2.2 = some s → s < nHd (P r) ∧ s = nOwn (hs.take j)
theorem bP_tail {r : Nat} {e : Nat × Nat × Nat} {rest : XS} (h : bP r (e :: rest)) : bP r rest := by
  cases rest with
  | nil => exact True.intro
  | cons e2 r => exact h
theorem HdI_step {P : Nat → List Line} (hP : gP P) {r : Nat} {st st' : XS} {x x' : XA} (h : xStep P (st, x) = some (st', x')) (mi : MI P st x) (hb : bP r st) (hi : HdI P r x.2.2.1) : bP r st' ∧ HdI P r x'.2.2.1 := by
  cases st with
  | nil => cases h
  | cons e rest =>
    obtain ⟨p, j, add⟩ := e
    have hp : p < 12 := mi.1.1 (p, j, add) List.mem_cons_self
    have hrl : rest.length < 12 := by
      have := okSt_len mi.1
      rw [List.length_cons] at this
      omega
    have hadd : add ≤ 2 * rest.length := mi.2.1.1
    have hlt : x.1 < 100 := by
      by_cases g : 100 ≤ x.1
      · rw [xStep_h g] at h
        cases h
      · omega
    have h : (match (P p)[j]? with
      | none => some (rest, x)
      | some l => some (xLine P p j add rest l x)) = some (st', x') := by
      have : xStep P ((p, j, add) :: rest, x) = _ := if_neg (by omega : ¬ 100 ≤ x.1)
      rw [this] at h
      exact h
    have tp : ∀ j' : Nat, bP r ((p, j', add) :: rest) := fun j' => by
      cases rest with
      | nil => exact hb
      | cons e2 r => exact hb
    cases hl : (P p)[j]? with
    | none =>
      rw [hl] at h
      cases h
      exact ⟨bP_tail hb, hi⟩
    | some l =>
      rw [hl] at h
      have h := Option.some.inj h
      have gl : gLine l := (hP p hp).1 l (List.mem_of_getElem? hl)
      rcases l with ⟨v, w⟩ | ⟨q, s⟩ | es
      · cases h
        refine ⟨tp _, ?_⟩
        intro i y hy
        show y.1 ≤ 27 ∧ y.2.1 < 12 ∧ gAnc y.2.2.1 ∧ ∀ s, y.2.2.2 = some s → s < nHd (P r) ∧ s = nOwn ((x.2.2.1 ++ [(v + add, p, (w, cntN w x.2.2.1), secX rest x.2.2.1)]).take i)
        have hy : (x.2.2.1 ++ [(v + add, p, (w, cntN w x.2.2.1), secX rest x.2.2.1)])[i]? = some y := hy
        by_cases c : i < x.2.2.1.length
        · rw [List.getElem?_append_left c] at hy
          rw [List.take_append_of_le_length (by omega)]
          exact hi i y hy
        · have hi2 := All_lt hy
          rw [List.length_append] at hi2
          have hi2 : i < x.2.2.1.length + 1 := hi2
          have ei : i = x.2.2.1.length := by omega
          rw [ei, List.getElem?_append_right (Nat.le_refl _), Nat.sub_self] at hy
          cases hy
          rw [ei, List.take_append_of_le_length (Nat.le_refl _), List.take_of_length_le (Nat.le_refl _)]
          refine ⟨?_, hp, ⟨gl.2.2, ?_⟩, fun s hs => ?_⟩
          · show v + add ≤ 27
            have := gl.2.1
            omega
          · show cntN w x.2.2.1 ≤ 99
            have := cntN_le w x.2.2.1
            have := mi.2.2.2.1
            omega
          · cases rest with
            | nil =>
              have hs : some (nOwn x.2.2.1) = some s := hs
              cases hs
              refine ⟨?_, rfl⟩
              have e1 : nOwn x.2.2.1 = nHd ((P p).take j) := mi.2.2.1
              have e2 : p = r := hb
              rw [e1, ← e2]
              have e3 := nHd_s hl
              have e4 : nHd (P p) = nHd ((P p).take (j + 1)) + nHd ((P p).drop (j + 1)) := by rw [← nHd_app, List.take_append_drop]
              have e5 : isHd (.inl (v, w)) = 1 := rfl
              omega
            | cons e2 r2 => cases hs
      · have h : (if P q ≠ [] ∧ onSt q ((p, j, add) :: rest) = false ∧ x.2.2.2 < 200 then ((q, 0, add + s.getD 0) :: (p, j + 1, add) :: rest, x.1, x.2.1, x.2.2.1, x.2.2.2 + 1) else ((p, j + 1, add) :: rest, x) : XS × XA) = (st', x') := h
        by_cases c : P q ≠ [] ∧ onSt q ((p, j, add) :: rest) = false ∧ x.2.2.2 < 200
        · rw [if_pos c] at h
          cases h
          exact ⟨tp (j + 1), hi⟩
        · rw [if_neg c] at h
          cases h
          exact ⟨tp (j + 1), hi⟩
      · cases h
        exact ⟨tp _, hi⟩
theorem HdI_it {P : Nat → List Line} (hP : gP P) {r : Nat} : ∀ (n : Nat) (st st' : XS) (x x' : XA), xIt P n (st, x) = some (st', x') → MI P st x → bP r st → HdI P r x.2.2.1 → MI P st' x' ∧ HdI P r x'.2.2.1 := by
  intro n
  induction n with
  | zero => intro st st' x x' h mi _ hi; cases h; exact ⟨mi, hi⟩
  | succ n ih =>
    intro st st' x x' h mi hb hi
    cases e : xStep P (st, x) with
    | none =>
      unfold xIt at h
      rw [e] at h
      cases h
    | some c =>
      obtain ⟨s2, x2⟩ := c
      rw [xIt_s e] at h
      obtain ⟨b2, i2⟩ := HdI_step hP e mi hb hi
      exact ih s2 st' x2 x' h (MI_step hP e mi) b2 i2
theorem XFin_hd {P : Nat → List Line} (hP : gP P) {r : Nat} (hr : r < 12) {x : XA} (h : XFin P r x) : x.2.2.1.length ≤ x.1 ∧ x.1 ≤ 100 ∧ HdI P r x.2.2.1 := by
  by_cases c : P r = []
  · have e := XFin_one h (XFin_nil c)
    rw [e]
    exact ⟨Nat.le_refl _, Nat.zero_le _, fun j y hy => by cases hy⟩
  · obtain ⟨st, ⟨n, h1⟩, _⟩ := h
    have mi : MI P [(r, 0, 0)] (0, 0, [], 0) := by
      refine ⟨⟨fun e he => ?_, ?_⟩, ⟨Nat.le_refl _, Nat.zero_le _, c, True.intro⟩, rfl, Nat.le_refl _, Nat.zero_le _, Nat.zero_le _⟩
      · cases he with
        | head => exact hr
        | tail _ g => cases g
      · exact List.nodup_cons.mpr ⟨fun g => (by cases g), List.nodup_nil⟩
    obtain ⟨m2, i2⟩ := HdI_it (r := r) hP n _ _ _ _ h1 mi rfl (fun j y hy => by cases hy)
    exact ⟨m2.2.2.2.1, m2.2.2.2.2.1, i2⟩
/-- the row headingOf -/
theorem hoF_at : ∀ (hs : List Hd) (u : Nat → Int32) (k s : Nat), (∀ y ∈ hs, y.2.2.2 ≠ some s) → hoF u k hs s = u s := by
  intro hs
  induction hs with
  | nil => intro u k s _; rfl
  | cons x r ih =>
    intro u k s h
    have hx := h x List.mem_cons_self
    show hoF (hOf u x.2.2.2 k) (k + 1) r s = u s
    rw [ih _ _ _ fun y hy => h y (List.mem_cons_of_mem _ hy)]
    cases e : x.2.2.2 with
    | none => rfl
    | some i =>
      show upd u i (nI k) s = u s
      unfold upd
      rw [if_neg (fun w => hx (by rw [e, w]))]
theorem hoF_app : ∀ (a b : List Hd) (u : Nat → Int32) (k : Nat), hoF u k (a ++ b) = hoF (hoF u k a) (k + a.length) b := by
  intro a
  induction a with
  | nil => intro b u k; rfl
  | cons x r ih =>
    intro b u k
    show hoF (hOf u x.2.2.2 k) (k + 1) (r ++ b) = hoF (hoF (hOf u x.2.2.2 k) (k + 1) r) (k + (r.length + 1)) b
    rw [ih, show k + 1 + r.length = k + (r.length + 1) by omega]
theorem nOwn_mono (a b : List Hd) : nOwn a ≤ nOwn (a ++ b) := by rw [nOwn_app]; omega
/-- the section s is begun by the heading j, and by no other -/
theorem hoF_is {P : Nat → List Line} {r : Nat} {hs : List Hd} (hi : HdI P r hs) {j s : Nat} {y : Hd} (hy : hs[j]? = some y) (hsec : y.2.2.2 = some s) (u : Nat → Int32) : hoF u 0 hs s = nI j := by
  have hj := All_lt hy
  have e := split_at hy
  have es := (hi j y hy).2.2.2 s hsec
  have hl : (hs.take j).length = j := by rw [List.length_take]; omega
  rw [e, hoF_app, Nat.zero_add, hl]
  show hoF (hOf (hoF u 0 (hs.take j)) y.2.2.2 j) (j + 1) (hs.drop (j + 1)) s = nI j
  rw [hoF_at]
  · rw [hsec]
    show upd _ s (nI j) s = nI j
    unfold upd
    rw [if_pos rfl]
  · intro z hz w
    obtain ⟨i, hi2, ez⟩ := List.getElem_of_mem hz
    have hz2 : hs[j + 1 + i]? = some z := by
      rw [← ez, ← List.getElem?_eq_getElem hi2, List.getElem?_drop]
    have ez2 := (hi _ z hz2).2.2.2 s w
    have k1 : hs.take (j + 1 + i) = (hs.take j ++ [y]) ++ (hs.drop (j + 1)).take i := by
      rw [← take_s hy, List.take_add]
    rw [k1, nOwn_app, nOwn_app] at ez2
    have k2 : nOwn [y] = 1 := by
      show (match y.2.2.2 with
        | none => 0
        | some _ => 1) + 0 = 1
      rw [hsec]
    omega
/-- a section without a heading in the expansion -/
theorem hoF_no {hs : List Hd} {s : Nat} (h : ∀ y ∈ hs, y.2.2.2 ≠ some s) : hoF (fun _ => (-6)) 0 hs s = (-6) := hoF_at hs _ 0 s h
