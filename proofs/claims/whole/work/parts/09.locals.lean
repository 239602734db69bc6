/-! locals -/
theorem cat_cvv (z b : Nat) (v : AV) : (cvv z b v).category = cat v := by
  rcases v with x | x | r
  · rfl
  · rfl
  · cases r <;> rfl
theorem stw_cvv (z b : Nat) (st : List AV) : ((st.map (cvv z b)).map fun v => v.category).sum = stw st := by
  induction st with
  | nil => rfl
  | cons v t ih => simp only [List.map_cons, List.sum_cons, stw, cat_cvv, ih]
def prs (z b : Nat) (ls : Ls) : List (Nat × Value) := (List.range ls.length).filterMap fun j => match ls[j]? with
  | some (some v) => some (j, cvv z b v)
  | _ => none
theorem prs_in {z b : Nat} {ls : Ls} {j : Nat} {v : AV} (h : ls[j]? = some (some v)) : (j, cvv z b v) ∈ prs z b ls := by
  refine List.mem_filterMap.mpr ⟨j, List.mem_range.mpr (List.getElem?_eq_some_iff.mp h).1, ?_⟩
  rw [h]
theorem prs_of {z b : Nat} {ls : Ls} {q : Nat × Value} (h : q ∈ prs z b ls) : ∃ v, ls[q.1]? = some (some v) ∧ q.2 = cvv z b v := by
  obtain ⟨j, -, hj⟩ := List.mem_filterMap.mp h
  split at hj
  · rename_i v hv
    cases hj
    exact ⟨v, hv, rfl⟩
  · cases hj
theorem LsI_has {z b nL : Nat} {arr : Array Slot} {ls : Ls} (h : LsI z b nL arr ls) : lv_has arr nL (prs z b ls) := by
  refine ⟨h.1, h.2.1, fun q hq => ?_⟩
  obtain ⟨v, h1, h2⟩ := prs_of hq
  rw [h2]
  exact h.2.2.2 _ _ h1
theorem clr_succ (ls : Ls) (j : Nat) : clr ls (j + 1) = (match ls[j]? with
    | some (some (.inr (.inl _))) => ls.set j none
    | _ => ls) := rfl
theorem clr_len (ls : Ls) (i : Nat) : (clr ls i).length = ls.length := by
  cases i with
  | zero => rfl
  | succ j =>
    rw [clr_succ]
    split
    · simp
    · rfl
theorem clr_get {ls : Ls} {i j : Nat} {w : AV} (h : (clr ls i)[j]? = some (some w)) : ls[j]? = some (some w) ∧ (j + 1 = i → cat w ≠ 2) := by
  cases i with
  | zero => exact ⟨h, fun q => by omega⟩
  | succ i =>
    rw [clr_succ] at h
    split at h
    · rename_i y hy
      by_cases hij : j = i
      · subst hij
        have hl : j < ls.length := (List.getElem?_eq_some_iff.mp hy).1
        rw [List.getElem?_set_self hl] at h
        cases h
      · rw [List.getElem?_set_ne (fun q => hij q.symm)] at h
        exact ⟨h, fun q => by omega⟩
    · rename_i hn
      refine ⟨h, fun q => ?_⟩
      have e : j = i := by omega
      subst e
      rcases w with x | x | r
      · exact fun q => by cases q
      · exact absurd h (hn x)
      · exact fun q => by cases q
theorem sto1_ok {z b nL : Nat} {arr : Array Slot} {ls : Ls} {i : Nat} {v : AV} (hlen : ls.length = nL) (h : lv_has arr nL ((i, cvv z b v) :: (prs z b ls).filter (fun q => !(q.1 == i) && !(q.1 + 1 == i && q.2.category == 2)))) : LsI z b nL arr (sto1 ls i v) := by
  refine ⟨h.1, h.2.1, by unfold sto1; rw [List.length_set, clr_len, hlen], fun j w hw => ?_⟩
  by_cases hj : j = i
  · subst hj
    have hl : j < (clr ls j).length := by
      have := (List.getElem?_eq_some_iff.mp hw).1
      simpa [sto1] using this
    unfold sto1 at hw
    rw [List.getElem?_set_self hl] at hw
    cases hw
    exact h.2.2 (j, cvv z b v) List.mem_cons_self
  · unfold sto1 at hw
    rw [List.getElem?_set_ne (fun q => hj q.symm)] at hw
    obtain ⟨h1, h2⟩ := clr_get hw
    refine h.2.2 (j, cvv z b w) (List.mem_cons_of_mem _ (List.mem_filter.mpr ⟨prs_in h1, ?_⟩))
    simp only [cat_cvv, Bool.and_eq_true, Bool.not_eq_true', beq_eq_false_iff_ne, Bool.and_eq_false_iff]
    refine ⟨hj, ?_⟩
    by_cases q : j + 1 = i
    · exact Or.inr (h2 q)
    · exact Or.inl q
theorem sto2_ok {z b nL : Nat} {arr : Array Slot} {ls : Ls} {i : Nat} {v : AV} (hlen : ls.length = nL) (h : lv_has arr nL ((i, cvv z b v) :: (prs z b ls).filter (fun q => !(q.1 == i) && (!(q.1 == i + 1) && !(q.1 + 1 == i && q.2.category == 2))))) : LsI z b nL arr (sto2 ls i v) := by
  refine ⟨h.1, h.2.1, by unfold sto2; rw [List.length_set, List.length_set, clr_len, hlen], fun j w hw => ?_⟩
  unfold sto2 at hw
  by_cases hj1 : j = i + 1
  · subst hj1
    have hl : i + 1 < ((clr ls i).set i (some v)).length := by
      have := (List.getElem?_eq_some_iff.mp hw).1
      simpa using this
    rw [List.getElem?_set_self hl] at hw
    cases hw
  · rw [List.getElem?_set_ne (fun q => hj1 q.symm)] at hw
    by_cases hj : j = i
    · subst hj
      have hl : j < (clr ls j).length := by
        have := (List.getElem?_eq_some_iff.mp hw).1
        simpa using this
      rw [List.getElem?_set_self hl] at hw
      cases hw
      exact h.2.2 (j, cvv z b v) List.mem_cons_self
    · rw [List.getElem?_set_ne (fun q => hj q.symm)] at hw
      obtain ⟨h1, h2⟩ := clr_get hw
      refine h.2.2 (j, cvv z b w) (List.mem_cons_of_mem _ (List.mem_filter.mpr ⟨prs_in h1, ?_⟩))
      simp only [cat_cvv, Bool.and_eq_true, Bool.not_eq_true', beq_eq_false_iff_ne, Bool.and_eq_false_iff]
      refine ⟨hj, hj1, ?_⟩
      by_cases q : j + 1 = i
      · exact Or.inr (h2 q)
      · exact Or.inl q
theorem jmp_ok {pc : Nat} {o : Int} (h : jpos pc o = true) : (pc : Int) + o = (jmp pc o : Int) := by
  have h1 : 0 ≤ (pc : Int) + o := by simpa [jpos] using h
  unfold jmp
  omega
theorem dk {cc : ByteArray} {tb : List (Nat × Instr × Nat)} (h : dchk cc tb = true) {pc : Nat} {q : Instr × Nat} (hl : lkI tb pc = some q) : decode cc pc = .ok (q.1, q.2) ∧ lnOk pc q.1 q.2 = true := by
  induction tb with
  | nil => cases hl
  | cons a t ih =>
    unfold dchk at h
    rw [List.all_cons, Bool.and_eq_true] at h
    obtain ⟨a1, a2⟩ := a
    unfold lkI at hl
    cases hb : Nat.beq a1 pc with
    | true =>
      rw [hb] at hl
      cases hl
      have e := beq_n hb
      subst e
      have h1 := h.1
      simp only [Bool.and_eq_true, decide_eq_true_eq] at h1
      exact h1
    | false =>
      rw [hb] at hl
      exact ih h.2 hl
/-- the entry -/
theorem ent_ok (z b : Nat) (as : List AV) : ∀ (k j : Nat) (v : AV), (ent as)[j]? = some (some v) → (k + j, cvv z b v) ∈ lv_args k (as.map (cvv z b)) := by
  induction as with
  | nil => intro k j v h; cases h
  | cons a t ih =>
    intro k j v h
    rcases a with x | x | r
    · rcases j with _ | j
      · cases h
        simp [lv_args, cvv, Value.category]
      · have h' : (ent t)[j]? = some (some v) := h
        have := ih (k + 1) j v h'
        simp only [List.map_cons, lv_args]
        have e : k + (j + 1) = k + 1 + j := by omega
        rw [e]
        simp [cvv, Value.category]
        exact Or.inr this
    · rcases j with _ | _ | j
      · cases h
        simp [lv_args, cvv, Value.category]
      · cases h
      · have h' : (ent t)[j]? = some (some v) := h
        have := ih (k + 2) j v h'
        simp only [List.map_cons, lv_args]
        have e : k + (j + 1 + 1) = k + 2 + j := by omega
        rw [e]
        simp [cvv, Value.category]
        exact Or.inr this
    · rcases j with _ | j
      · cases h
        cases r <;> simp [lv_args, cvv, Value.category, va_rf]
      · have h' : (ent t)[j]? = some (some v) := h
        have := ih (k + 1) j v h'
        simp only [List.map_cons, lv_args]
        have e : k + (j + 1) = k + 1 + j := by omega
        rw [e]
        cases r <;> simp [cvv, Value.category, va_rf] <;> exact Or.inr this
