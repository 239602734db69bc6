/-! a link of a page gets another target -/
def skel (l : Line) : Line := match l with
  | .inr (.inr _) => .inr (.inr [])
  | l => l
theorem txEls_cons (e : Elem) {r : List Elem} (h : r ≠ []) : txEls (e :: r) = txEl e ++ 44 :: txEls r := by
  cases r with
  | nil => exact absurd rfl h
  | cons a b => rfl
theorem els_rep (own : Nat) : ∀ (es : List Elem) (at_ j : Nat) (k : Lk), (∀ e ∈ es, gEl e) → (lkEls own at_ es)[j]? = some k → ∃ (u v : List Nat) (l : Option Nat) (a : Option Anc), txEls es = u ++ (txLink l a ++ v) ∧ k.2.2.1 = at_ + u.length ∧ k.2.2.2 = k.2.2.1 + (txLink l a).length ∧ ∀ l' a', gEl (.inr (l', a')) → ∃ es', es' ≠ [] ∧ (∀ e ∈ es', gEl e) ∧ txEls es' = u ++ (txLink l' a' ++ v) := by
  intro es
  induction es with
  | nil => intro at_ j k _ h; cases h
  | cons e r ih =>
    intro at_ j k hg h
    have h : (lkEl own at_ e ++ lkEls own (at_ + (txEl e).length + 1) r)[j]? = some k := h
    by_cases c : j < (lkEl own at_ e).length
    · rw [List.getElem?_append_left c] at h
      cases e with
      | inl w => cases c
      | inr q =>
        obtain ⟨l, a⟩ := q
        have c : j < 1 := c
        have c : j = 0 := by omega
        subst c
        have ek : (l.getD own, a, at_ + 1, at_ + 1 + (txLink l a).length) = k := Option.some.inj h
        subst ek
        by_cases hr : r = []
        · subst hr
          refine ⟨[91], [93], l, a, rfl, rfl, rfl, fun l' a' g => ⟨[.inr (l', a')], fun w => (by cases w), fun e he => ?_, rfl⟩⟩
          cases he with
          | head => exact g
          | tail _ w => cases w
        · refine ⟨[91], 93 :: 44 :: txEls r, l, a, ?_, rfl, rfl, fun l' a' g => ⟨.inr (l', a') :: r, fun w => (by cases w), fun e he => ?_, ?_⟩⟩
          · rw [txEls_cons _ hr]
            show 91 :: (txLink l a ++ [93]) ++ 44 :: txEls r = 91 :: (txLink l a ++ 93 :: 44 :: txEls r)
            rw [List.cons_append, List.append_assoc]
            rfl
          · cases he with
            | head => exact g
            | tail _ w => exact hg e (List.mem_cons_of_mem _ w)
          · rw [txEls_cons _ hr]
            show 91 :: (txLink l' a' ++ [93]) ++ 44 :: txEls r = 91 :: (txLink l' a' ++ 93 :: 44 :: txEls r)
            rw [List.cons_append, List.append_assoc]
            rfl
    · rw [List.getElem?_append_right (by omega)] at h
      have hr : r ≠ [] := fun w => by rw [w] at h; cases h
      obtain ⟨u, v, l, a, h1, h2, h3, h4⟩ := ih _ _ k (fun x hx => hg x (List.mem_cons_of_mem _ hx)) h
      refine ⟨txEl e ++ 44 :: u, v, l, a, ?_, ?_, h3, fun l' a' g => ?_⟩
      · rw [txEls_cons _ hr, h1]
        simp
      · rw [h2, List.length_append, List.length_cons]
        omega
      · obtain ⟨es', g1, g2, g3⟩ := h4 l' a' g
        refine ⟨e :: es', fun w => (by cases w), fun x hx => ?_, ?_⟩
        · cases hx with
          | head => exact hg _ List.mem_cons_self
          | tail _ w => exact g2 x w
        · rw [txEls_cons _ g1, g3]
          simp
theorem pg_rep (own : Nat) : ∀ (ls : List Line) (at_ j : Nat) (k : Lk), gPg ls → (lkPg own at_ ls)[j]? = some k → ∃ (u v : List Nat) (l : Option Nat) (a : Option Anc), txPg ls = u ++ (txLink l a ++ v) ∧ k.2.2.1 = at_ + u.length ∧ k.2.2.2 = k.2.2.1 + (txLink l a).length ∧ ∀ l' a', gEl (.inr (l', a')) → ∃ ls', gPg ls' ∧ ls'.map skel = ls.map skel ∧ txPg ls' = u ++ (txLink l' a' ++ v) := by
  intro ls
  induction ls with
  | nil => intro at_ j k _ h; cases h
  | cons x r ih =>
    intro at_ j k hg h
    have h : (lkLine own at_ x ++ lkPg own (at_ + (txLine x).length + 1) r)[j]? = some k := h
    have gx := hg x List.mem_cons_self
    have gr : gPg r := fun y hy => hg y (List.mem_cons_of_mem _ hy)
    by_cases c : j < (lkLine own at_ x).length
    · rw [List.getElem?_append_left c] at h
      cases x with
      | inl w => cases c
      | inr x =>
        cases x with
        | inl w => cases c
        | inr es =>
          obtain ⟨u, v, l, a, h1, h2, h3, h4⟩ := els_rep own es at_ j k gx.2 h
          by_cases hr : r = []
          · subst hr
            refine ⟨u, v, l, a, h1, h2, h3, fun l' a' g => ?_⟩
            obtain ⟨es', g1, g2, g3⟩ := h4 l' a' g
            refine ⟨[.inr (.inr es')], fun y hy => ?_, rfl, g3⟩
            cases hy with
            | head => exact ⟨g1, g2⟩
            | tail _ w => cases w
          · refine ⟨u, v ++ 59 :: txPg r, l, a, ?_, h2, h3, fun l' a' g => ?_⟩
            · rw [txPg_cons _ hr]
              show txEls es ++ 59 :: txPg r = _
              rw [h1]
              simp
            · obtain ⟨es', g1, g2, g3⟩ := h4 l' a' g
              refine ⟨.inr (.inr es') :: r, fun y hy => ?_, rfl, ?_⟩
              · cases hy with
                | head => exact ⟨g1, g2⟩
                | tail _ w => exact gr y w
              · rw [txPg_cons _ hr]
                show txEls es' ++ 59 :: txPg r = _
                rw [g3]
                simp
    · rw [List.getElem?_append_right (by omega)] at h
      have hr : r ≠ [] := fun w => by rw [w] at h; cases h
      obtain ⟨u, v, l, a, h1, h2, h3, h4⟩ := ih _ _ k gr h
      refine ⟨txLine x ++ 59 :: u, v, l, a, ?_, ?_, h3, fun l' a' g => ?_⟩
      · rw [txPg_cons _ hr, h1]
        simp
      · rw [h2, List.length_append, List.length_cons]
        omega
      · obtain ⟨ls', g1, g2, g3⟩ := h4 l' a' g
        have n : ls' ≠ [] := fun w => by
          rw [w] at g2
          have := congrArg List.length g2
          rw [List.length_map, List.length_map] at this
          exact hr (List.length_eq_zero_iff.mp this.symm)
        refine ⟨x :: ls', fun y hy => ?_, ?_, ?_⟩
        · cases hy with
          | head => exact gx
          | tail _ w => exact g1 y w
        · rw [List.map_cons, List.map_cons, g2]
        · rw [txPg_cons _ n, g3]
          simp
def isWr (ls : List Line) (k : Lk) (w : List Nat) (ls' : List Line) : Prop := gPg ls' ∧ ls'.map skel = ls.map skel ∧ txPg ls' = (txPg ls).take k.2.2.1 ++ (w ++ (txPg ls).drop k.2.2.2)
noncomputable def wrL (ls : List Line) (k : Lk) (w : List Nat) : List Line := Classical.epsilon (isWr ls k w)
theorem wrL_ok {own : Nat} {ls : List Line} {j : Nat} {k : Lk} {l : Option Nat} {a : Option Anc} (hg : gPg ls) (hk : (lkPg own 0 ls)[j]? = some k) (gl : gEl (.inr (l, a))) : isWr ls k (txLink l a) (wrL ls k (txLink l a)) ∧ k.2.2.1 ≤ k.2.2.2 ∧ k.2.2.2 ≤ (txPg ls).length := by
  obtain ⟨u, v, l0, a0, h1, h2, h3, h4⟩ := pg_rep own ls 0 j k hg hk
  obtain ⟨ls', g1, g2, g3⟩ := h4 l a gl
  have e1 : (txPg ls).take k.2.2.1 = u := by
    rw [h1, h2, Nat.zero_add, List.take_left']
    rfl
  have e2 : (txPg ls).drop k.2.2.2 = v := by
    rw [h1, h3, h2, Nat.zero_add, ← List.append_assoc, ← List.length_append, List.drop_left']
    rfl
  refine ⟨Classical.epsilon_spec (p := isWr ls k (txLink l a)) ⟨ls', g1, g2, by rw [e1, e2]; exact g3⟩, by omega, ?_⟩
  rw [h1, List.length_append, List.length_append]
  omega
/-! the expansions stay -/
theorem skel_at {a b : List Line} (h : a.map skel = b.map skel) (j : Nat) : (a[j]?).map skel = (b[j]?).map skel := by
  rw [← List.getElem?_map, ← List.getElem?_map, h]
theorem skel_nil {a b : List Line} (h : a.map skel = b.map skel) : a = [] ↔ b = [] := by
  have := congrArg List.length h
  rw [List.length_map, List.length_map] at this
  rw [← List.length_eq_zero_iff, ← List.length_eq_zero_iff, this]
theorem xLine_sk {P P' : Nat → List Line} (h : ∀ q, (P' q).map skel = (P q).map skel) {l l' : Line} (hl : skel l' = skel l) (p j add : Nat) (rest : XS) (x : XA) : xLine P' p j add rest l' x = xLine P p j add rest l x := by
  cases l with
  | inl w =>
    cases l' with
    | inl w' => cases hl; rfl
    | inr q => cases q <;> cases hl
  | inr q =>
    cases q with
    | inl w =>
      cases l' with
      | inl w' => cases hl
      | inr q' =>
        cases q' with
        | inl w' =>
          cases hl
          obtain ⟨q, s⟩ := w
          unfold xLine
          have e : (P' q ≠ []) = (P q ≠ []) := propext (not_congr (skel_nil (h q)))
          simp only [e]
        | inr w' => cases hl
    | inr w =>
      cases l' with
      | inl w' => cases hl
      | inr q' =>
        cases q' with
        | inl w' => cases hl
        | inr w' => rfl
theorem xStep_sk {P P' : Nat → List Line} (h : ∀ q, (P' q).map skel = (P q).map skel) (c : XS × XA) : xStep P' c = xStep P c := by
  obtain ⟨st, x⟩ := c
  cases st with
  | nil => rfl
  | cons e rest =>
    obtain ⟨p, j, add⟩ := e
    unfold xStep
    have w := skel_at (h p) j
    cases e1 : (P' p)[j]? with
    | none =>
      rw [e1] at w
      cases e2 : (P p)[j]? with
      | none => simp only [e1, e2]
      | some l => rw [e2] at w; cases w
    | some l' =>
      rw [e1] at w
      cases e2 : (P p)[j]? with
      | none => rw [e2] at w; cases w
      | some l =>
        rw [e2] at w
        have hl : skel l' = skel l := Option.some.inj w
        simp only [e1, e2]
        rw [xLine_sk h hl]
theorem xIt_sk {P P' : Nat → List Line} (h : ∀ q, (P' q).map skel = (P q).map skel) : ∀ (n : Nat) (c : XS × XA), xIt P' n c = xIt P n c := by
  intro n
  induction n with
  | zero => intro c; rfl
  | succ n ih =>
    intro c
    unfold xIt
    rw [xStep_sk h]
    cases xStep P c with
    | none => rfl
    | some d => exact ih d
theorem XFin_sk {P P' : Nat → List Line} (h : ∀ q, (P' q).map skel = (P q).map skel) (r : Nat) : XFin P' r = XFin P r := by
  funext x
  refine propext ⟨fun ⟨st, ⟨n, h1⟩, h2⟩ => ⟨st, ⟨n, by rw [← xIt_sk h]; exact h1⟩, by rw [← xStep_sk h]; exact h2⟩, fun ⟨st, ⟨n, h1⟩, h2⟩ => ⟨st, ⟨n, by rw [xIt_sk h]; exact h1⟩, by rw [xStep_sk h]; exact h2⟩⟩
theorem XF_sk {P P' : Nat → List Line} (h : ∀ q, (P' q).map skel = (P q).map skel) : XF P' = XF P := by
  funext r
  unfold XF
  rw [show (fun x => XFin P' r x) = fun x => XFin P r x from XFin_sk h r]
theorem gX_sk {P P' : Nat → List Line} (h : ∀ q, (P' q).map skel = (P q).map skel) (g : gX P) : gX P' := fun p hp => by
  rw [XF_sk h, XFin_sk h]
  exact g p hp
theorem nHd_sk : ∀ {a b : List Line}, a.map skel = b.map skel → nHd a = nHd b := by
  intro a
  induction a with
  | nil =>
    intro b h
    cases b with
    | nil => rfl
    | cons y s => cases h
  | cons x r ih =>
    intro b h
    cases b with
    | nil => cases h
    | cons y s =>
      rw [List.map_cons, List.map_cons] at h
      have h1 : skel x = skel y := (List.cons.inj h).1
      have h2 := ih (List.cons.inj h).2
      have e : isHd x = isHd y := by
        have k : ∀ l, isHd (skel l) = isHd l := fun l => by
          cases l with
          | inl w => rfl
          | inr q => cases q <;> rfl
        rw [← k x, ← k y, h1]
      show isHd x + nHd r = isHd y + nHd s
      rw [e, h2]
theorem upd_sk {P : Nat → List Line} {p : Nat} {ls : List Line} (h : ls.map skel = (P p).map skel) : ∀ q, (updP P p ls q).map skel = (P q).map skel := fun q => by
  by_cases c : q = p
  · rw [c, updP_s]; exact h
  · rw [updP_o _ _ c]
