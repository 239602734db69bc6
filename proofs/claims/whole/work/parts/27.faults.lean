/-! both readers find the same fault -/
section
variable {n : Nat} {t : Nat → Nat}
/-- the class has read a name of eight signs and stands before a ninth; the model has refused it there -/
def RelP (t : Nat → Nat) (n : Nat) (c m : Bool × Nat) : Prop := c.2 = m.2 ∧ (c.1 = m.1 ∨ (c.1 = true ∧ m.1 = false ∧ ldN t n c.2 = true))
theorem RelP.rfl' (c : Bool × Nat) : RelP t n c c := ⟨rfl, Or.inl rfl⟩
theorem RelP.cases' {c m : Bool × Nat} (h : RelP t n c m) : c = m ∨ ∃ a, c = (true, a) ∧ m = (false, a) ∧ ldN t n a = true := by
  obtain ⟨b, a⟩ := c
  obtain ⟨b', a'⟩ := m
  obtain ⟨h1, h2⟩ := h
  have h1 : a = a' := h1
  subst h1
  rcases h2 with h2 | ⟨h2, h3, h4⟩
  · have h2 : b = b' := h2
    subst h2
    exact Or.inl rfl
  · have h2 : b = true := h2
    have h3 : b' = false := h3
    subst h2
    subst h3
    exact Or.inr ⟨a, rfl, rfl, h4⟩
theorem ldN_ch {a : Nat} (h : ldN t n a = true) : a < n ∧ ((97 ≤ t a ∧ t a ≤ 122) ∨ (48 ≤ t a ∧ t a ≤ 57)) := by
  unfold ldN pTB at h
  rw [Bool.or_eq_true] at h
  rcases h with h | h
  · split at h
    · rename_i q; exact ⟨q.1, Or.inl q.2⟩
    · cases h
  · split at h
    · rename_i q; exact ⟨q.1, Or.inr q.2⟩
    · cases h
theorem pT_ld {a c : Nat} (h : ldN t n a = true) (hc : c < 48 ∨ (57 < c ∧ c < 97)) : pT t n c a = (false, a) := by
  have := ldN_ch h
  unfold pT pTB
  rw [if_neg (by omega)]
theorem mNl_p : ∀ (k a : Nat), mNl t n k a = (! ldN t n (pNl t n k a), pNl t n k a) := by
  intro k
  induction k with
  | zero => intro a; rfl
  | succ k ih =>
    intro a
    cases e1 : (pTB t n 97 122 a).1 with
    | true =>
      have l : ldN t n a = true := by unfold ldN; rw [e1]; rfl
      have e3 : mNl t n (k + 1) a = mNl t n k (a + 1) := by conv => lhs; unfold mNl; rw [l, if_pos rfl]
      have e4 : pNl t n (k + 1) a = pNl t n k (a + 1) := by conv => lhs; unfold pNl; rw [e1, if_pos rfl, (pTB_t e1).1]
      rw [e3, e4]
      exact ih (a + 1)
    | false =>
      cases e2 : (pTB t n 48 57 a).1 with
      | true =>
        have l : ldN t n a = true := by unfold ldN; rw [e1, e2]; rfl
        have e3 : mNl t n (k + 1) a = mNl t n k (a + 1) := by conv => lhs; unfold mNl; rw [l, if_pos rfl]
        have e4 : pNl t n (k + 1) a = pNl t n k (a + 1) := by conv => lhs; unfold pNl; rw [e1, if_neg (by decide), e2, if_pos rfl, (pTB_t e2).1]
        rw [e3, e4]
        exact ih (a + 1)
      | false =>
        have l : ldN t n a = false := by unfold ldN; rw [e1, e2]; rfl
        have e3 : mNl t n (k + 1) a = (true, a) := by unfold mNl; rw [l, if_neg (by decide)]
        have e4 : pNl t n (k + 1) a = a := by unfold pNl; rw [e1, if_neg (by decide), e2, if_neg (by decide)]
        rw [e3, e4, l]
        rfl
theorem rel_name (a : Nat) : RelP t n (pName t n a) (mName t n a) := by
  unfold pName mName
  cases e1 : (pTB t n 97 122 a).1 with
  | false => exact RelP.rfl' _
  | true =>
    rw [if_pos rfl, if_pos rfl, (pTB_t e1).1]
    have em : mNl t n 8 a = mNl t n 7 (a + 1) := by
      conv => lhs; unfold mNl
      rw [show ldN t n a = true by unfold ldN; rw [e1]; rfl, if_pos rfl]
    rw [em, mNl_p]
    refine ⟨rfl, ?_⟩
    cases e2 : ldN t n (pNl t n 7 (a + 1)) with
    | true => exact Or.inr ⟨rfl, rfl, rfl⟩
    | false => exact Or.inl rfl
theorem rel_anchor {a : Nat} (h : (pT t n 35 a).1 = true) : RelP t n (pAnchor t n a) (mAnchor t n (a + 1)) := by
  unfold pAnchor mAnchor
  rcases h1 : pT t n 35 a with ⟨b, a1⟩
  rw [h1] at h
  have h : b = true := h
  subst h
  obtain ⟨e1, -⟩ := pTB_tt h1
  subst e1
  dsimp only
  rcases (rel_name (t := t) (n := n) (a + 1)).cases' with e | ⟨x, e1, e2, e3⟩
  · rw [e]
    exact RelP.rfl' _
  · rw [e1, e2]
    dsimp only
    rw [pT_ld e3 (by omega)]
    exact ⟨rfl, Or.inr ⟨rfl, rfl, e3⟩⟩
theorem isN_T {a c : Nat} : isN t n c a = (pT t n c a).1 := by
  unfold isN pT pTB
  by_cases h : a < n ∧ t a = c
  · rw [decide_eq_true h, if_pos ⟨h.1, by omega, by omega⟩]
  · rw [decide_eq_false h, if_neg (by omega)]
theorem rel_place (a : Nat) : RelP t n (pPlace t n a) (mPlace t n a) := by
  unfold pPlace mPlace
  rcases h1 : pTB t n 65 76 a with ⟨b, a1⟩
  cases b with
  | false => exact RelP.rfl' _
  | true =>
    dsimp only
    rw [isN_T]
    rcases h2 : pT t n 35 a1 with ⟨b, a2⟩
    cases b with
    | false =>
      have := pTB_ff h2
      subst this
      rw [if_neg (fun q => by cases q)]
      exact RelP.rfl' _
    | true =>
      obtain ⟨e2, -⟩ := pTB_tt h2
      subst e2
      rw [if_pos rfl]
      exact rel_anchor (by rw [h2])
theorem pEq_no {a : Nat} (h : (pT t n 61 a).1 = false) : ∀ k, pEq t n k a = a := by
  intro k
  induction k with
  | zero => rfl
  | succ k ih => show pEq t n k (pT t n 61 a).2 = a; rw [pT_f h]; exact ih
theorem pEq_m : ∀ (k a : Nat), pEq t n k a = mEq t n k a := by
  intro k
  induction k with
  | zero => intro a; rfl
  | succ k ih =>
    intro a
    unfold mEq
    cases e : (pT t n 61 a).1 with
    | true =>
      rw [if_pos rfl]
      show pEq t n k (pT t n 61 a).2 = _
      rw [(pT_t e).1]
      exact ih (a + 1)
    | false =>
      rw [if_neg (by decide)]
      exact pEq_no e (k + 1)
theorem rel_head (a : Nat) : RelP t n (pHead t n a) (mHead t n a) := by
  unfold pHead mHead
  rw [pEq_m]
  exact rel_name _
theorem rel_elem (a : Nat) : RelP t n (pElem t n a) (mElem t n a) := by
  unfold pElem mElem
  rcases h1 : pT t n 91 a with ⟨b, a1⟩
  cases b with
  | false =>
    dsimp only
    exact rel_name _
  | true =>
    dsimp only
    rw [isN_T]
    unfold mTgt
    rcases h2 : pT t n 35 a1 with ⟨b2, a2⟩
    cases b2 with
    | true =>
      obtain ⟨e2, -⟩ := pTB_tt h2
      subst e2
      have hno : pTB t n 65 76 a1 = (false, a1) := by
        have : a1 < n ∧ t a1 = 35 := by
          unfold pT pTB at h2
          split at h2
          · rename_i q; omega
          · cases h2
        unfold pTB
        rw [if_neg (by omega)]
      rw [hno]
      dsimp only
      rw [h2]
      rw [if_pos rfl]
      rcases (rel_anchor (t := t) (n := n) (a := a1) (by rw [h2])).cases' with e | ⟨x, e1, e3, e4⟩
      · rw [e]
        exact RelP.rfl' _
      · rw [e1, e3]
        dsimp only
        rw [pT_ld e4 (by omega)]
        exact RelP.rfl' _
    | false =>
      have := pTB_ff h2
      subst this
      dsimp only
      unfold mPlace
      rcases h3 : pTB t n 65 76 a2 with ⟨b3, a3⟩
      cases b3 with
      | false =>
        have := pTB_ff h3
        subst this
        dsimp only
        rw [h2, if_neg (fun q => by cases q), if_neg (by decide)]
        exact RelP.rfl' _
      | true =>
        dsimp only
        rcases h4 : pT t n 35 a3 with ⟨b4, a4⟩
        cases b4 with
        | false =>
          have := pTB_ff h4
          subst this
          rw [if_neg (fun q => by cases q), if_pos rfl]
          exact RelP.rfl' _
        | true =>
          obtain ⟨e4, -⟩ := pTB_tt h4
          subst e4
          rw [if_pos rfl]
          dsimp only
          rcases (rel_anchor (t := t) (n := n) (a := a3) (by rw [h4])).cases' with e | ⟨x, e1, e3, e5⟩
          · rw [e]
            exact RelP.rfl' _
          · rw [e1, e3]
            dsimp only
            rw [pT_ld e5 (by omega)]
            exact RelP.rfl' _
theorem pElem_end : pElem t n n = (false, n) := by
  have h : ∀ x y, pTB t n x y n = (false, n) := fun x y => by unfold pTB; rw [if_neg (by omega)]
  unfold pElem pT
  rw [h]
  dsimp only
  unfold pName
  rw [h]
  rfl
theorem rel_els : ∀ (k a : Nat), a ≤ n → n ≤ a + k → RelP t n (pEls t n (k + 1) a) (mEls t n k a) := by
  intro k
  induction k with
  | zero =>
    intro a ha hk
    obtain rfl : a = n := by omega
    have hm : mElem t a a = (false, a) := by
      rcases (rel_elem (t := t) (n := a) a).cases' with e | ⟨x, e1, -, -⟩
      · rw [← e, pElem_end]
      · rw [pElem_end] at e1; cases e1
    show RelP t a (pEls t a 1 a) (mElem t a a)
    rw [hm]
    unfold pEls
    rw [pElem_end]
    exact RelP.rfl' _
  | succ k ih =>
    intro a ha hk
    have lm := mElem_b (t := t) ha
    unfold mEls
    conv => arg 3; unfold pEls
    rcases (rel_elem (t := t) (n := n) a).cases' with e | ⟨x, e1, e2, e3⟩
    · rw [e]
      rcases h1 : mElem t n a with ⟨b, a1⟩
      rw [h1] at lm
      have lm : a ≤ a1 ∧ a1 ≤ n := lm
      cases b with
      | false => exact RelP.rfl' _
      | true =>
        dsimp only
        rcases h2 : pT t n 44 a1 with ⟨b, a2⟩
        cases b with
        | false => exact RelP.rfl' _
        | true =>
          have := pTB_tt h2
          exact ih a2 (by omega) (by omega)
    · rw [e1, e2]
      dsimp only
      rw [pT_ld e3 (by omega)]
      exact ⟨rfl, Or.inr ⟨rfl, rfl, e3⟩⟩
theorem rel_line {a : Nat} (ha : a ≤ n) : RelP t n (pLine t n a) (mLine t n a) := by
  unfold pLine mLine
  split
  · exact rel_head a
  · split
    · exact RelP.rfl' _
    · exact rel_els n a ha (by omega)
theorem page_eq : ∀ (k a : Nat), a ≤ n → n ≤ a + k → pPg t n (k + 1) a = mFin n (mPg t n k a) := by
  intro k
  induction k with
  | zero =>
    intro a ha hk
    have lm := mLine_b (t := t) ha
    show pPg t n 1 a = mFin n (mLine t n a)
    unfold pPg
    rcases (rel_line (t := t) ha).cases' with e | ⟨x, e1, e2, e3⟩
    · rw [e]
      rcases h1 : mLine t n a with ⟨b, a1⟩
      rw [h1] at lm
      have lm : a ≤ a1 ∧ a1 ≤ n := lm
      unfold mFin
      cases b with
      | false => rw [if_neg (fun q => by cases q.1)]
      | true =>
        dsimp only
        have h2 : pT t n 59 a1 = (false, a1) := by unfold pT pTB; rw [if_neg (by omega)]
        rw [h2]
        simp
    · rw [e1, e2]
      dsimp only
      rw [pT_ld e3 (by omega)]
      have := (ldN_ch e3).1
      unfold mFin
      dsimp only
      rw [if_neg (by omega), if_neg (fun q => by cases q.1)]
  | succ k ih =>
    intro a ha hk
    have lm := mLine_b (t := t) ha
    conv => lhs; unfold pPg
    conv => rhs; unfold mPg
    rcases (rel_line (t := t) ha).cases' with e | ⟨x, e1, e2, e3⟩
    · rw [e]
      rcases h1 : mLine t n a with ⟨b, a1⟩
      rw [h1] at lm
      have lm : a ≤ a1 ∧ a1 ≤ n := lm
      cases b with
      | false => dsimp only; unfold mFin; rw [if_neg (fun q => by cases q.1)]
      | true =>
        dsimp only
        rcases h2 : pT t n 59 a1 with ⟨b, a2⟩
        cases b with
        | false =>
          dsimp only
          unfold mFin
          simp
        | true =>
          have := pTB_tt h2
          exact ih a2 (by omega) (by omega)
    · rw [e1, e2]
      dsimp only
      rw [pT_ld e3 (by omega)]
      have := (ldN_ch e3).1
      dsimp only
      unfold mFin
      rw [if_neg (by omega), if_neg (fun q => by cases q.1)]
theorem pageF_eq : pageF t n = mPageF t n := page_eq n 0 (Nat.zero_le n) (by omega)
theorem redF_eq : redF t n = mRedF t n := by
  unfold redF mRedF mRed
  rcases (rel_place (t := t) (n := n) 0).cases' with e | ⟨x, e1, e2, e3⟩
  · rw [e]
    rcases h1 : mPlace t n 0 with ⟨b, a1⟩
    cases b with
    | false => dsimp only; unfold mFin; rw [if_neg (fun q => by cases q.1)]
    | true =>
      dsimp only
      rcases h2 : pT t n 62 a1 with ⟨b, a2⟩
      cases b with
      | false => dsimp only; unfold mFin; rw [if_neg (fun q => by cases q.1)]
      | true =>
        dsimp only
        rcases (rel_place (t := t) (n := n) a2).cases' with e | ⟨x, e1, e2, e3⟩
        · rw [e]
          rcases h3 : mPlace t n a2 with ⟨b, a3⟩
          unfold mFin
          cases b with
          | false => rw [if_neg (fun q => by cases q.1)]
          | true => simp
        · rw [e1, e2]
          have := (ldN_ch e3).1
          unfold mFin
          dsimp only
          rw [if_neg (by omega), if_neg (fun q => by cases q.1)]
  · rw [e1, e2]
    dsimp only
    rw [pT_ld e3 (by omega)]
    unfold mFin
    rw [if_neg (fun q => by cases q.1)]
end
