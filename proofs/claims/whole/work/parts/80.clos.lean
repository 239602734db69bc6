/-! sets of pages that are closed -/
def orA (N : Nat → Int32) (m : Int32) : Nat → Int32 → Int32
  | 0, a => a
  | k + 1, a => if bt m k = true then orA N m k a ||| N k else orA N m k a
theorem orA_bt (N : Nat → Int32) (m a : Int32) (r : Nat) : ∀ k, bt (orA N m k a) r = true ↔ (bt a r = true ∨ ∃ q, q < k ∧ bt m q = true ∧ bt (N q) r = true) := by
  intro k
  induction k with
  | zero => exact ⟨fun h => Or.inl h, fun h => by
      rcases h with h | ⟨q, hq, _⟩
      · exact h
      · omega⟩
  | succ k ih =>
    unfold orA
    by_cases c : bt m k = true
    · rw [if_pos c, bt_or, Bool.or_eq_true, ih]
      constructor
      · rintro ((h | ⟨q, h1, h2⟩) | h)
        · exact Or.inl h
        · exact Or.inr ⟨q, by omega, h2⟩
        · exact Or.inr ⟨k, by omega, c, h⟩
      · rintro (h | ⟨q, h1, h2, h3⟩)
        · exact Or.inl (Or.inl h)
        · by_cases e : q = k
          · rw [e] at h3
            exact Or.inr h3
          · exact Or.inl (Or.inr ⟨q, by omega, h2, h3⟩)
    · rw [if_neg c, ih]
      constructor
      · rintro (h | ⟨q, h1, h2⟩)
        · exact Or.inl h
        · exact Or.inr ⟨q, by omega, h2⟩
      · rintro (h | ⟨q, h1, h2, h3⟩)
        · exact Or.inl h
        · by_cases e : q = k
          · rw [e] at h2
            exact absurd h2 c
          · exact Or.inr ⟨q, by omega, h2, h3⟩
def clF (N : Nat → Int32) (a : Int32) : Nat → Int32
  | 0 => a
  | i + 1 => orA N (clF N a i) 12 (clF N a i)
def cnB (f : Nat → Bool) : Nat → Nat
  | 0 => 0
  | k + 1 => (if f k = true then 1 else 0) + cnB f k
theorem cnB_le (f : Nat → Bool) : ∀ k, cnB f k ≤ k := by
  intro k
  induction k with
  | zero => exact Nat.le_refl _
  | succ k ih => unfold cnB; split <;> omega
theorem cnB_mo {f g : Nat → Bool} : ∀ {k}, (∀ q, q < k → f q = true → g q = true) → cnB f k ≤ cnB g k := by
  intro k
  induction k with
  | zero => intro _; exact Nat.le_refl _
  | succ k ih =>
    intro h
    have i := ih fun q hq => h q (by omega)
    have hk := h k (by omega)
    unfold cnB
    by_cases c : f k = true
    · rw [if_pos c, if_pos (hk c)]; omega
    · rw [if_neg c]; omega
theorem cnB_lt {f g : Nat → Bool} : ∀ {k}, (∀ q, q < k → f q = true → g q = true) → (∃ q, q < k ∧ f q = false ∧ g q = true) → cnB f k + 1 ≤ cnB g k := by
  intro k
  induction k with
  | zero => rintro _ ⟨q, hq, _⟩; omega
  | succ k ih =>
    rintro h ⟨q, hq, h1, h2⟩
    have hk := h k (by omega)
    unfold cnB
    by_cases e : q = k
    · subst e
      have i := cnB_mo (f := f) (g := g) (k := q) fun z hz => h z (by omega)
      rw [if_pos h2, if_neg (by rw [h1]; exact Bool.false_ne_true)]
      omega
    · have i := ih (fun z hz => h z (by omega)) ⟨q, by omega, h1, h2⟩
      by_cases c : f k = true
      · rw [if_pos c, if_pos (hk c)]; omega
      · rw [if_neg c]; omega
theorem cnB_full {f : Nat → Bool} : ∀ {k}, k ≤ cnB f k → ∀ q, q < k → f q = true := by
  intro k
  induction k with
  | zero => intro _ q hq; omega
  | succ k ih =>
    intro h q hq
    unfold cnB at h
    have l := cnB_le f k
    by_cases c : f k = true
    · rw [if_pos c] at h
      by_cases e : q = k
      · rw [e]; exact c
      · exact ih (by omega) q (by omega)
    · rw [if_neg c] at h
      omega
theorem clF_mo (N : Nat → Int32) (a : Int32) (i r : Nat) (h : bt (clF N a i) r = true) : bt (clF N a (i + 1)) r = true := (orA_bt N _ _ r 12).mpr (Or.inl h)
theorem clF_det {N : Nat → Int32} {a : Int32} {i : Nat} (h : ∀ q, q < 12 → bt (clF N a (i + 1)) q = bt (clF N a i) q) : ∀ q, q < 12 → bt (clF N a (i + 2)) q = bt (clF N a (i + 1)) q := by
  intro q hq
  rw [Bool.eq_iff_iff]
  refine ⟨fun w => ?_, clF_mo N a (i + 1) q⟩
  rcases (orA_bt N _ _ q 12).mp w with w | ⟨z, hz, w1, w2⟩
  · exact w
  · rw [h z hz] at w1
    exact (orA_bt N _ _ q 12).mpr (Or.inr ⟨z, hz, w1, w2⟩)
theorem clF_stab (N : Nat → Int32) (a : Int32) : ∀ i, (∀ q, q < 12 → bt (clF N a (i + 1)) q = bt (clF N a i) q) ∨ (cnB (bt a) 12 + i + 1 ≤ cnB (bt (clF N a (i + 1))) 12) := by
  have one : ∀ i, (∀ q, q < 12 → bt (clF N a (i + 1)) q = bt (clF N a i) q) ∨ cnB (bt (clF N a i)) 12 + 1 ≤ cnB (bt (clF N a (i + 1))) 12 := by
    intro i
    by_cases c : ∃ q, q < 12 ∧ bt (clF N a i) q = false ∧ bt (clF N a (i + 1)) q = true
    · exact Or.inr (cnB_lt (fun q _ h => clF_mo N a i q h) c)
    · refine Or.inl fun q hq => ?_
      rw [Bool.eq_iff_iff]
      refine ⟨fun w => ?_, clF_mo N a i q⟩
      cases e : bt (clF N a i) q with
      | true => rfl
      | false => exact absurd ⟨q, hq, e, w⟩ c
  intro i
  induction i with
  | zero =>
    rcases one 0 with h | h
    · exact Or.inl h
    · exact Or.inr h
  | succ i ih =>
    rcases ih with h | h
    · exact Or.inl (clF_det h)
    · rcases one (i + 1) with g | g
      · exact Or.inl g
      · exact Or.inr (by omega)
theorem clF_11 (N : Nat → Int32) (a : Int32) : ∀ q, q < 12 → bt (clF N a 12) q = bt (clF N a 11) q := by
  rcases clF_stab N a 11 with h | h
  · exact h
  · have l : cnB (bt (clF N a (11 + 1))) 12 ≤ 12 := cnB_le (bt (clF N a 12)) 12
    have h0 : cnB (bt a) 12 = 0 := by omega
    have no : ∀ q, q < 12 → bt a q = false := by
      intro q hq
      cases e : bt a q with
      | false => rfl
      | true =>
        have := cnB_lt (f := fun _ => false) (g := bt a) (k := 12) (fun _ _ w => by cases w) ⟨q, hq, rfl, e⟩
        omega
    have z : ∀ i, ∀ q, q < 12 → bt (clF N a (i + 1)) q = bt (clF N a i) q := by
      intro i
      induction i with
      | zero =>
        intro q hq
        rw [Bool.eq_iff_iff]
        refine ⟨fun w => ?_, clF_mo N a 0 q⟩
        rcases (orA_bt N _ _ q 12).mp w with w | ⟨z, hz, w1, w2⟩
        · exact w
        · have w1 : bt a z = true := w1
          rw [no z hz] at w1
          cases w1
      | succ i ih => exact clF_det ih
    exact z 11
theorem cl_closed {N : Nat → Int32} {a : Int32} {q r : Nat} (hq : q < 12) (hr : r < 12) (h : bt (clF N a 11) q = true) (h2 : bt (N q) r = true) : bt (clF N a 11) r = true := by
  rw [← clF_11 N a r hr]
  exact (orA_bt N _ _ r 12).mpr (Or.inr ⟨q, hq, h, h2⟩)
theorem cl_seed (N : Nat → Int32) (a : Int32) (r : Nat) (h : bt a r = true) : ∀ i, bt (clF N a i) r = true := by
  intro i
  induction i with
  | zero => exact h
  | succ i ih => exact clF_mo N a i r ih
theorem cl_min {N : Nat → Int32} {a : Int32} {T : Nat → Prop} (h0 : ∀ r, bt a r = true → T r) (h1 : ∀ q r, q < 12 → T q → bt (N q) r = true → T r) : ∀ i r, bt (clF N a i) r = true → T r := by
  intro i
  induction i with
  | zero => exact h0
  | succ i ih =>
    intro r h
    rcases (orA_bt N _ _ r 12).mp h with h | ⟨q, hq, w1, w2⟩
    · exact ih r h
    · exact h1 q r hq (ih q w1) w2
