/-! steps from one text to another one -/
def nrF (c : Nat) (v : List Nat) (prev : Nat → Nat) (i0 : Nat) : Nat → Nat
  | 0 => i0
  | j + 1 => min (prev j + (if c = v.getD j 0 then 0 else 1)) (min (prev (j + 1)) (nrF c v prev i0 j) + 1)
def dR (w v : List Nat) : Nat → Nat → Nat
  | 0 => fun j => j
  | i + 1 => nrF (w.getD i 0) v (dR w v i) (i + 1)
def lsF (f : Nat → Nat) : Nat → Nat
  | 0 => f 0
  | j + 1 => min (lsF f j) (f (j + 1))
def dist (w v : List Nat) : Nat := dR w v w.length v.length
theorem dR_0 (w v : List Nat) (i : Nat) : dR w v i 0 = i := by cases i <;> rfl
theorem dR_s (w v : List Nat) (i j : Nat) : dR w v (i + 1) (j + 1) = min (dR w v i j + (if w.getD i 0 = v.getD j 0 then 0 else 1)) (min (dR w v i (j + 1)) (dR w v (i + 1) j) + 1) := rfl
theorem lsF_le (f : Nat → Nat) : ∀ m j, j ≤ m → lsF f m ≤ f j := by
  intro m
  induction m with
  | zero => intro j hj; rw [show j = 0 by omega]; exact Nat.le_refl _
  | succ m ih =>
    intro j hj
    unfold lsF
    by_cases e : j = m + 1
    · rw [e]; exact Nat.min_le_right _ _
    · exact Nat.le_trans (Nat.min_le_left _ _) (ih j (by omega))
theorem lsF_ge {f : Nat → Nat} {x : Nat} : ∀ m, (∀ j, j ≤ m → x ≤ f j) → x ≤ lsF f m := by
  intro m
  induction m with
  | zero => intro h; exact h 0 (Nat.le_refl _)
  | succ m ih =>
    intro h
    unfold lsF
    have a := ih fun j hj => h j (by omega)
    have b := h (m + 1) (Nat.le_refl _)
    omega
theorem dR_mono (w v : List Nat) (i m : Nat) : lsF (dR w v i) m ≤ lsF (dR w v (i + 1)) m := by
  refine lsF_ge m fun j => ?_
  induction j with
  | zero =>
    intro _
    have := lsF_le (dR w v i) m 0 (Nat.zero_le _)
    rw [dR_0] at this ⊢
    omega
  | succ j ih =>
    intro hj
    have a := ih (by omega)
    have b := lsF_le (dR w v i) m j (by omega)
    have c := lsF_le (dR w v i) m (j + 1) hj
    rw [dR_s]
    split <;> omega
theorem dR_ls (w v : List Nat) (m : Nat) : ∀ k i, lsF (dR w v i) m ≤ dR w v (i + k) m := by
  have step : ∀ k i, lsF (dR w v i) m ≤ lsF (dR w v (i + k)) m := by
    intro k
    induction k with
    | zero => intro i; exact Nat.le_refl _
    | succ k ih => intro i; exact Nat.le_trans (ih i) (dR_mono w v (i + k) m)
  intro k i
  exact Nat.le_trans (step k i) (lsF_le _ m m (Nat.le_refl _))
theorem dR_len (w v : List Nat) : ∀ i j, i ≤ dR w v i j + j ∧ j ≤ dR w v i j + i ∧ dR w v i j ≤ i + j := by
  intro i
  induction i with
  | zero => intro j; show 0 ≤ j + j ∧ j ≤ j + 0 ∧ j ≤ 0 + j; omega
  | succ i ih =>
    intro j
    induction j with
    | zero => rw [dR_0]; omega
    | succ j ihj =>
      have a := ih j
      have b := ih (j + 1)
      rw [dR_s]
      split <;> omega
theorem dR_zero (w v : List Nat) : ∀ i j, dR w v i j = 0 → i = j ∧ ∀ k, k < i → w.getD k 0 = v.getD k 0 := by
  intro i
  induction i with
  | zero => intro j h; have h : j = 0 := h; exact ⟨h.symm, fun k hk => by omega⟩
  | succ i ih =>
    intro j h
    cases j with
    | zero => rw [dR_0] at h; omega
    | succ j =>
      rw [dR_s] at h
      by_cases c : w.getD i 0 = v.getD j 0
      · rw [if_pos c] at h
        have h0 : dR w v i j = 0 := by omega
        obtain ⟨e, k⟩ := ih j h0
        refine ⟨by omega, fun x hx => ?_⟩
        by_cases z : x = i
        · rw [z, c, e]
        · exact k x (by omega)
      · rw [if_neg c] at h
        omega
theorem dR_self (w : List Nat) : ∀ i, dR w w i i = 0 := by
  intro i
  induction i with
  | zero => rfl
  | succ i ih =>
    rw [dR_s, ih, if_pos rfl]
    omega
theorem dist_0 {w v : List Nat} : dist w v = 0 ↔ w = v := by
  constructor
  · intro h
    obtain ⟨e, k⟩ := dR_zero w v _ _ h
    exact getD_ext e k
  · intro h
    rw [h]
    exact dR_self v v.length
/-- what stepsTo answers: from the line i on, k lines are left -/
def stL (w v : List Nat) (lim : Nat) : Nat → Nat → Nat
  | 0, _ => dist w v
  | k + 1, i => if lim ≤ lsF (dR w v i) v.length then lim else stL w v lim k (i + 1)
def stF (w v : List Nat) (lim : Nat) : Nat := if w = v then 0 else if lim ≤ 1 then lim else if lim ≤ w.length - v.length + (v.length - w.length) then lim else stL w v lim w.length 1
theorem stL_p {w v : List Nat} {lim : Nat} : ∀ k i, i + k = w.length + 1 → (dist w v < lim → stL w v lim k i = dist w v) ∧ (lim ≤ dist w v → lim ≤ stL w v lim k i) := by
  intro k
  induction k with
  | zero => intro i _; exact ⟨fun _ => rfl, fun h => h⟩
  | succ k ih =>
    intro i hi
    unfold stL
    by_cases c : lim ≤ lsF (dR w v i) v.length
    · rw [if_pos c]
      have := dR_ls w v v.length (w.length - i) i
      rw [show i + (w.length - i) = w.length by omega] at this
      exact ⟨fun h => by unfold dist at h; omega, fun _ => Nat.le_refl _⟩
    · rw [if_neg c]
      exact ih (i + 1) (by omega)
theorem stF_p (w v : List Nat) (lim : Nat) : (dist w v < lim → stF w v lim = dist w v) ∧ (lim ≤ dist w v → lim ≤ stF w v lim) := by
  unfold stF
  by_cases c : w = v
  · rw [if_pos c, (dist_0 (w := w) (v := v)).mpr c]
    exact ⟨fun _ => rfl, fun h => h⟩
  · rw [if_neg c]
    have d1 : dist w v ≠ 0 := fun h => c (dist_0.mp h)
    by_cases c2 : lim ≤ 1
    · rw [if_pos c2]
      exact ⟨fun h => by omega, fun _ => Nat.le_refl _⟩
    · rw [if_neg c2]
      by_cases c3 : lim ≤ w.length - v.length + (v.length - w.length)
      · rw [if_pos c3]
        have := dR_len w v w.length v.length
        exact ⟨fun h => by unfold dist at h; omega, fun _ => Nat.le_refl _⟩
      · rw [if_neg c3]
        exact stL_p w.length 1 (by omega)
theorem stF_le (w v : List Nat) (lim : Nat) (hl : lim ≤ 1000) (hw : w.length ≤ 11) (hv : v.length ≤ 11) : stF w v lim ≤ 1000 := by
  have b : dist w v ≤ 22 := by
    have := dR_len w v w.length v.length
    unfold dist
    omega
  have s : ∀ k i, stL w v lim k i ≤ 1000 := by
    intro k
    induction k with
    | zero => intro i; show dist w v ≤ 1000; omega
    | succ k ih => intro i; unfold stL; split
                   · exact hl
                   · exact ih _
  unfold stF
  split
  · omega
  · split
    · exact hl
    · split
      · exact hl
      · exact s _ _
