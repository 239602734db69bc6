/-! which pages have a source: the class and the model -/
def SrcM (σ : Hp) (p : Nat) (ls : List Line) : Prop := gPg ls ∧ (txPg ls).length ≤ 160 ∧ hI σ 235 0 (1920 + p) = (if ls = [] then (-6) else nI (txPg ls).length) ∧ TxM σ p 0 (txPg ls)
theorem txPg_pos {ls : List Line} (hg : gPg ls) : 0 < (txPg ls).length ↔ ls ≠ [] := by
  have := txPg_len hg
  cases ls with
  | nil => exact ⟨fun h => (by cases h), fun h => absurd rfl h⟩
  | cons l r =>
    rw [List.length_cons] at this
    exact ⟨fun _ q => (by cases q), fun _ => by omega⟩
theorem e_hasSource (d : Nat) {σ : Hp} {p : Nat} {ls : List Line} (hp : p < 12) (hs : SrcC σ 0 p ls) : EI d 60 [vr 8 0, vi (nI p)] σ (bI (decide (ls ≠ []))) σ := by
  refine EI_of mt_60 (Nat.le_of_ble_eq_true rfl) fun Q hq => ?_
  obtain ⟨g1, g2, g3, _⟩ := hs
  have hl := txPg_pos g1
  refine wp_ok (cut := []) ma_60 rfl 8 _ _ _ _ ?_
  show (vp_in (nI p) 12 ∧ (((hI σ 10 0 ((nI p).toNatClampNeg)) ≤ 0 → (((nI 0) = 0 ∨ (nI 0) = 1) ∧ (Q (some (vi (nI 0))) σ ∧ σ.1 = σ.1))) ∧ (¬ (hI σ 10 0 ((nI p).toNatClampNeg)) ≤ 0 → (((nI 1) = 0 ∨ (nI 1) = 1) ∧ (Q (some (vi (nI 1))) σ ∧ σ.1 = σ.1)))))
  rw [ix (by omega), g3]
  refine ⟨inb (by omega) (by omega), br_le (b := 0) (by omega) (by omega) (fun g => ?_) (fun g => ?_)⟩
  · rw [decide_eq_false (fun w => by have := hl.mpr w; omega)] at hq
    exact ⟨Or.inl rfl, hq, rfl⟩
  · rw [decide_eq_true (hl.mp g)] at hq
    exact ⟨Or.inr rfl, hq, rfl⟩
theorem m_has (d : Nat) {σ : Hp} {p : Nat} {ls : List Line} (hp : p < 12) (hs : SrcM σ p ls) : EI (d + 1) 111 [vr 233 0, vi (nI p)] σ (bI (decide (ls ≠ []))) σ := by
  have h := m_hasSource d σ hp
  obtain ⟨g1, g2, g3, _⟩ := hs
  rw [g3] at h
  have e : decide (0 ≤ (if ls = [] then (-6 : Int32) else nI (txPg ls).length)) = decide (ls ≠ []) := by
    by_cases q : ls = []
    · rw [if_pos q, decide_eq_false (by decide : ¬ (0 : Int32) ≤ -6), decide_eq_false (fun w => w q)]
    · have z : (0 : Int32) ≤ nI (txPg ls).length := (leN (a := 0) (b := (txPg ls).length) (by omega) (by omega)).mpr (Nat.zero_le _)
      rw [if_neg q, decide_eq_true z, decide_eq_true q]
  rw [e] at h
  exact h
def srcB (P : Nat → List Line) : Nat → Int32
  | 0 => nI 0
  | k + 1 => if P k ≠ [] then srcB P k ||| bit k else srcB P k
theorem e_sources (d : Nat) {σ : Hp} {P : Nat → List Line} (hs : ∀ p, p < 12 → SrcC σ 0 p (P p)) : EI (d + 1) 61 [vr 8 0] σ (srcB P 12) σ := by
  have loop : ∀ (k p : Nat), p + k = 12 → ∀ Q : Option AV → Hp → Prop, Q (some (vi (srcB P 12))) σ → Sat true (d + 1) 61 σ.1 Q 4 [some (vr 8 0), some (vi (srcB P p)), some (vi (nI p))] [] σ := by
    intro k
    induction k with
    | zero =>
      intro p hp Q hq
      have hp : p = 12 := hp
      subst hp
      refine wp_ok (cut := [4]) ma_61 rfl 15 _ _ _ _ ?_
      show (((nI 12) ≤ (nI 12) → (Q (some (vi (srcB P 12))) σ ∧ σ.1 = σ.1)) ∧ (¬ (nI 12) ≤ (nI 12) → CalI true d 60 [vr 8 0, vi (nI 12)] σ σ.1 (fun x2 s1 => ((x2 = 0 → Sat true (d + 1) 61 σ.1 Q 4 [some (vr 8 0), some (vi (srcB P 12)), some (vi ((nI 12) + nI 1))] [] s1) ∧ (¬ x2 = 0 → Sat true (d + 1) 61 σ.1 Q 4 [some (vr 8 0), some (vi ((srcB P 12) ||| ((nI 1) <<< ((nI 12) &&& 31)))), some (vi ((nI 12) + nI 1))] [] s1)))))
      exact ⟨fun _ => ⟨hq, rfl⟩, fun g => absurd (by decide) g⟩
    | succ k ih =>
      intro p hp Q hq
      have kq := ih (p + 1) (by omega) Q hq
      have e : srcB P (p + 1) = if P p ≠ [] then srcB P p ||| bit p else srcB P p := rfl
      rw [e] at kq
      refine wp_ok (cut := [4]) ma_61 rfl 15 _ _ _ _ ?_
      show (((nI 12) ≤ (nI p) → (Q (some (vi (srcB P p))) σ ∧ σ.1 = σ.1)) ∧ (¬ (nI 12) ≤ (nI p) → CalI true d 60 [vr 8 0, vi (nI p)] σ σ.1 (fun x2 s1 => ((x2 = 0 → Sat true (d + 1) 61 σ.1 Q 4 [some (vr 8 0), some (vi (srcB P p)), some (vi ((nI p) + nI 1))] [] s1) ∧ (¬ x2 = 0 → Sat true (d + 1) 61 σ.1 Q 4 [some (vr 8 0), some (vi ((srcB P p) ||| ((nI 1) <<< ((nI p) &&& 31)))), some (vi ((nI p) + nI 1))] [] s1)))))
      refine br_le (by omega) (by omega) (fun g => by omega) (fun _ => ?_)
      refine cal_i (e_hasSource d (by omega) (hs p (by omega))) rfl ?_
      rw [addN]
      refine brI (fun g => ?_) (fun g => ?_)
      · rw [if_neg (of_decide_eq_false g)] at kq
        exact kq
      · rw [if_pos (of_decide_eq_true g)] at kq
        exact kq
  refine EI_of mt_61 (Nat.le_of_ble_eq_true rfl) fun Q hq => ?_
  refine wp_ok (cut := [4]) ma_61 rfl 4 _ _ _ _ ?_
  show Sat true (d + 1) 61 σ.1 Q 4 [some (vr 8 0), some (vi (nI 0)), some (vi (nI 0))] [] σ
  exact loop 12 0 rfl Q hq
theorem m_sources (d : Nat) {σ : Hp} {P : Nat → List Line} (hs : ∀ p, p < 12 → SrcM σ p (P p)) : EI (d + 2) 141 [vr 233 0] σ (srcB P 12) σ := by
  have z0 : ∀ x : Int32, x ||| nI 0 = x := fun x => Int32.or_zero
  have loop : ∀ (k p : Nat), p + k = 12 → ∀ Q : Option AV → Hp → Prop, Q (some (vi (srcB P 12))) σ → Sat true (d + 2) 141 σ.1 Q 4 [some (vr 233 0), some (vi (srcB P p)), some (vi (nI p))] [] σ := by
    intro k
    induction k with
    | zero =>
      intro p hp Q hq
      have hp : p = 12 := hp
      subst hp
      refine wp_ok (cut := [4]) ma_141 rfl 16 _ _ _ _ ?_
      show (((nI 12) ≤ (nI 12) → (Q (some (vi (srcB P 12))) σ ∧ σ.1 = σ.1)) ∧ (¬ (nI 12) ≤ (nI 12) → CalI true (d + 1) 111 [vr 233 0, vi (nI 12)] σ σ.1 (fun x2 s1 => ((x2 = 0 → Sat true (d + 2) 141 σ.1 Q 4 [some (vr 233 0), some (vi ((srcB P 12) ||| (nI 0))), some (vi ((nI 12) + nI 1))] [] s1) ∧ (¬ x2 = 0 → Sat true (d + 2) 141 σ.1 Q 4 [some (vr 233 0), some (vi ((srcB P 12) ||| ((nI 1) <<< ((nI 12) &&& 31)))), some (vi ((nI 12) + nI 1))] [] s1)))))
      exact ⟨fun _ => ⟨hq, rfl⟩, fun g => absurd (by decide) g⟩
    | succ k ih =>
      intro p hp Q hq
      have kq := ih (p + 1) (by omega) Q hq
      have e : srcB P (p + 1) = if P p ≠ [] then srcB P p ||| bit p else srcB P p := rfl
      rw [e] at kq
      refine wp_ok (cut := [4]) ma_141 rfl 16 _ _ _ _ ?_
      show (((nI 12) ≤ (nI p) → (Q (some (vi (srcB P p))) σ ∧ σ.1 = σ.1)) ∧ (¬ (nI 12) ≤ (nI p) → CalI true (d + 1) 111 [vr 233 0, vi (nI p)] σ σ.1 (fun x2 s1 => ((x2 = 0 → Sat true (d + 2) 141 σ.1 Q 4 [some (vr 233 0), some (vi ((srcB P p) ||| (nI 0))), some (vi ((nI p) + nI 1))] [] s1) ∧ (¬ x2 = 0 → Sat true (d + 2) 141 σ.1 Q 4 [some (vr 233 0), some (vi ((srcB P p) ||| ((nI 1) <<< ((nI p) &&& 31)))), some (vi ((nI p) + nI 1))] [] s1)))))
      refine br_le (by omega) (by omega) (fun g => by omega) (fun _ => ?_)
      refine cal_i (m_has d (by omega) (hs p (by omega))) rfl ?_
      rw [addN, z0]
      refine brI (fun g => ?_) (fun g => ?_)
      · rw [if_neg (of_decide_eq_false g)] at kq
        exact kq
      · rw [if_pos (of_decide_eq_true g)] at kq
        exact kq
  refine EI_of mt_141 (Nat.le_of_ble_eq_true rfl) fun Q hq => ?_
  refine wp_ok (cut := [4]) ma_141 rfl 4 _ _ _ _ ?_
  show Sat true (d + 2) 141 σ.1 Q 4 [some (vr 233 0), some (vi (nI 0)), some (vi (nI 0))] [] σ
  exact loop 12 0 rfl Q hq
