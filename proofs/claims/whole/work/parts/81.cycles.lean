/-! cycles: the class -/
def mkM (f : Nat → Bool) : Nat → Int32
  | 0 => nI 0
  | k + 1 => if f k = true then mkM f k ||| bit k else mkM f k
theorem mkM_bt (f : Nat → Bool) : ∀ k, k ≤ 12 → ∀ q, q < 32 → bt (mkM f k) q = (decide (q < k) && f q) := by
  intro k
  induction k with
  | zero =>
    intro _ q _
    rw [decide_eq_false (by omega), Bool.false_and]
    exact bt_0 q
  | succ k ih =>
    intro hk q hq
    have i := ih (by omega) q hq
    unfold mkM
    by_cases c : f k = true
    · rw [if_pos c, bt_or, i, bt_bit k (by omega) q hq]
      by_cases e : q = k
      · rw [e, c, decide_eq_false (by omega : ¬ k < k), decide_eq_true rfl, decide_eq_true (by omega : k < k + 1)]
        rfl
      · rw [decide_eq_false e, Bool.or_false]
        by_cases e2 : q < k
        · rw [decide_eq_true e2, decide_eq_true (by omega : q < k + 1)]
        · rw [decide_eq_false e2, decide_eq_false (by omega : ¬ q < k + 1)]
    · rw [if_neg c, i]
      by_cases e : q = k
      · have c2 : f q = false := by
          rw [e]
          cases w : f k with
          | false => rfl
          | true => exact absurd w c
        rw [c2, Bool.and_false, Bool.and_false]
      · by_cases e2 : q < k
        · rw [decide_eq_true e2, decide_eq_true (by omega : q < k + 1)]
        · rw [decide_eq_false e2, decide_eq_false (by omega : ¬ q < k + 1)]
theorem mkM_ext {f g : Nat → Bool} : ∀ {k}, (∀ q, q < k → f q = g q) → mkM f k = mkM g k := by
  intro k
  induction k with
  | zero => intro _; rfl
  | succ k ih =>
    intro h
    unfold mkM
    rw [ih fun q hq => h q (by omega), h k (by omega)]
/-- the pages that are included from p -/
def incS (P : Nat → List Line) (p : Nat) : Int32 := clF (fun q => mInc (P q)) (mInc (P p)) 11
def cycV (P : Nat → List Line) : Int32 := mkM (fun p => bt (incS P p) p) 12
section
variable {σ : Hp} {P : Nat → List Line} {X : Nat → XA} {rs : List (Pl × Pl)} {es : List En}
theorem e_includedFrom (d : Nat) (cs : CS σ P X rs es) {p : Nat} (hp : p < 12) : EI (d + 1) 55 [vr 7 0, vi (nI p)] σ (incS P p) σ := by
  refine EI_of mt_55 (Nat.le_of_ble_eq_true rfl) fun Q hq => ?_
  have i7 : ∀ q, q < 12 → hI σ 21 q 7 = mInc (P q) := fun q hq => (cs.2.1 q hq).1.2.2.2.2.1
  have inner : ∀ (m j : Nat), j ≤ 12 → ∀ (M a : Int32) (i : Nat), i + m = 12 → a = orA (fun q => mInc (P q)) M i M → (∀ x4 x5 : Option AV, Sat true (d + 1) 55 σ.1 Q 12 [some (vr 7 0), some (vi (nI p)), some (vi (orA (fun q => mInc (P q)) M 12 M)), some (vi (nI (j + 1))), none, none] [] σ) → Sat true (d + 1) 55 σ.1 Q 24 [some (vr 7 0), some (vi (nI p)), some (vi M), some (vi (nI j)), some (vi a), some (vi (nI i))] [] σ := by
    intro m j hj M
    induction m with
    | zero =>
      intro a i hi ha k
      have hi : i = 12 := hi
      subst hi
      rw [← ha] at k
      refine wp_ok (cut := [12, 24]) ma_55 rfl 17 _ _ _ _ ?_
      show (((nI 12) ≤ (nI 12) → Sat true (d + 1) 55 σ.1 Q 12 [some (vr 7 0), some (vi (nI p)), some (vi a), some (vi ((nI j) + nI 1)), some (vi a), some (vi (nI 12))] [] σ) ∧ (¬ (nI 12) ≤ (nI 12) → CalI true d 97 [vi M, vi (nI 12)] σ σ.1 (fun x2 s1 => ((x2 = 0 → Sat true (d + 1) 55 σ.1 Q 24 [some (vr 7 0), some (vi (nI p)), some (vi M), some (vi (nI j)), some (vi a), some (vi ((nI 12) + nI 1))] [] s1) ∧ (¬ x2 = 0 → (vp_in (nI 12) 12 ∧ (12 < 12 ∧ Sat true (d + 1) 55 σ.1 Q 24 [some (vr 7 0), some (vi (nI p)), some (vi M), some (vi (nI j)), some (vi (a ||| (hI s1 21 12 7))), some (vi ((nI 12) + nI 1))] [] s1)))))))
      rw [addN]
      exact ⟨fun _ => Sat_no 4 (Sat_no 5 (k none none)), fun g => absurd (Int32.le_refl _) g⟩
    | succ m ih =>
      intro a i hi ha k
      refine wp_ok (cut := [12, 24]) ma_55 rfl 17 _ _ _ _ ?_
      show (((nI 12) ≤ (nI i) → Sat true (d + 1) 55 σ.1 Q 12 [some (vr 7 0), some (vi (nI p)), some (vi a), some (vi ((nI j) + nI 1)), some (vi a), some (vi (nI i))] [] σ) ∧ (¬ (nI 12) ≤ (nI i) → CalI true d 97 [vi M, vi (nI i)] σ σ.1 (fun x2 s1 => ((x2 = 0 → Sat true (d + 1) 55 σ.1 Q 24 [some (vr 7 0), some (vi (nI p)), some (vi M), some (vi (nI j)), some (vi a), some (vi ((nI i) + nI 1))] [] s1) ∧ (¬ x2 = 0 → (vp_in (nI i) 12 ∧ ((nI i).toNatClampNeg < 12 ∧ Sat true (d + 1) 55 σ.1 Q 24 [some (vr 7 0), some (vi (nI p)), some (vi M), some (vi (nI j)), some (vi (a ||| (hI s1 21 ((nI i).toNatClampNeg) 7))), some (vi ((nI i) + nI 1))] [] s1)))))))
      rw [addN, addN, ix (by omega)]
      refine br_le (by omega) (by omega) (fun g => by omega) (fun _ => cal_i (e_isIn d σ M (by omega)) rfl (brI (fun g => ih a (i + 1) (by omega) ?_ k) (fun g => ⟨inb (by omega) (by omega), by omega, ih _ (i + 1) (by omega) ?_ k⟩)))
      · unfold orA
        rw [if_neg (by rw [g]; exact Bool.false_ne_true)]
        exact ha
      · unfold orA
        rw [if_pos g, i7 i (by omega), ha]
  have outer : ∀ (m j : Nat), j + m = 12 → 1 ≤ j → Sat true (d + 1) 55 σ.1 Q 12 [some (vr 7 0), some (vi (nI p)), some (vi (clF (fun q => mInc (P q)) (mInc (P p)) (j - 1))), some (vi (nI j)), none, none] [] σ := by
    intro m
    induction m with
    | zero =>
      intro j hj _
      have hj : j = 12 := hj
      subst hj
      refine wp_ok (cut := [12, 24]) ma_55 rfl 7 _ _ _ _ ?_
      show (((nI 12) ≤ (nI 12) → (Q (some (vi (clF (fun q => mInc (P q)) (mInc (P p)) (12 - 1)))) σ ∧ σ.1 = σ.1)) ∧ (¬ (nI 12) ≤ (nI 12) → Sat true (d + 1) 55 σ.1 Q 24 [some (vr 7 0), some (vi (nI p)), some (vi (clF (fun q => mInc (P q)) (mInc (P p)) (12 - 1))), some (vi (nI 12)), some (vi (clF (fun q => mInc (P q)) (mInc (P p)) (12 - 1))), some (vi (nI 0))] [] σ))
      exact ⟨fun _ => ⟨hq, rfl⟩, fun g => absurd (Int32.le_refl _) g⟩
    | succ m ih =>
      intro j hj h1
      have nx := ih (j + 1) (by omega) (by omega)
      refine wp_ok (cut := [12, 24]) ma_55 rfl 7 _ _ _ _ ?_
      show (((nI 12) ≤ (nI j) → (Q (some (vi (clF (fun q => mInc (P q)) (mInc (P p)) (j - 1)))) σ ∧ σ.1 = σ.1)) ∧ (¬ (nI 12) ≤ (nI j) → Sat true (d + 1) 55 σ.1 Q 24 [some (vr 7 0), some (vi (nI p)), some (vi (clF (fun q => mInc (P q)) (mInc (P p)) (j - 1))), some (vi (nI j)), some (vi (clF (fun q => mInc (P q)) (mInc (P p)) (j - 1))), some (vi (nI 0))] [] σ))
      refine br_le (by omega) (by omega) (fun g => by omega) (fun _ => inner 12 j (by omega) _ _ 0 (by omega) rfl (fun _ _ => ?_))
      obtain ⟨i, rfl⟩ : ∃ i, j = i + 1 := ⟨j - 1, by omega⟩
      exact nx
  refine wp_ok (cut := [12]) ma_55 rfl 8 _ _ _ _ ?_
  show (vp_in (nI p) 12 ∧ ((nI p).toNatClampNeg < 12 ∧ Sat true (d + 1) 55 σ.1 Q 12 [some (vr 7 0), some (vi (nI p)), some (vi (hI σ 21 ((nI p).toNatClampNeg) 7)), some (vi (nI 1)), none, none] [] σ))
  rw [ix (by omega), i7 p hp]
  exact ⟨inb hp (by omega), hp, outer 11 1 (by omega) (by omega)⟩
theorem e_cycles (d : Nat) (cs : CS σ P X rs es) : EI (d + 2) 79 [vr 1 0] σ (cycV P) σ := by
  refine EI_of mt_79 (Nat.le_of_ble_eq_true rfl) fun Q hq => ?_
  have loop : ∀ (m p : Nat), p + m = 12 → Sat true (d + 2) 79 σ.1 Q 4 [some (vr 1 0), some (vi (mkM (fun p => bt (incS P p) p) p)), some (vi (nI p))] [] σ := by
    intro m
    induction m with
    | zero =>
      intro p hp
      have hp : p = 12 := hp
      subst hp
      refine wp_ok (cut := [4]) ma_79 rfl 18 _ _ _ _ ?_
      show (((nI 12) ≤ (nI 12) → (Q (some (vi (mkM (fun p => bt (incS P p) p) 12))) σ ∧ σ.1 = σ.1)) ∧ (¬ (nI 12) ≤ (nI 12) → CalI true (d + 1) 55 [vr 7 0, vi (nI 12)] σ σ.1 (fun x2 s1 => CalI true (d + 1) 97 [vi x2, vi (nI 12)] s1 σ.1 (fun x4 s3 => ((x4 = 0 → Sat true (d + 2) 79 σ.1 Q 4 [some (vr 1 0), some (vi (mkM (fun p => bt (incS P p) p) 12)), some (vi ((nI 12) + nI 1))] [] s3) ∧ (¬ x4 = 0 → Sat true (d + 2) 79 σ.1 Q 4 [some (vr 1 0), some (vi ((mkM (fun p => bt (incS P p) p) 12) ||| ((nI 1) <<< ((nI 12) &&& 31)))), some (vi ((nI 12) + nI 1))] [] s3))))))
      exact ⟨fun _ => ⟨hq, rfl⟩, fun g => absurd (Int32.le_refl _) g⟩
    | succ m ih =>
      intro p hp
      have nx := ih (p + 1) (by omega)
      unfold mkM at nx
      refine wp_ok (cut := [4]) ma_79 rfl 18 _ _ _ _ ?_
      show (((nI 12) ≤ (nI p) → (Q (some (vi (mkM (fun p => bt (incS P p) p) p))) σ ∧ σ.1 = σ.1)) ∧ (¬ (nI 12) ≤ (nI p) → CalI true (d + 1) 55 [vr 7 0, vi (nI p)] σ σ.1 (fun x2 s1 => CalI true (d + 1) 97 [vi x2, vi (nI p)] s1 σ.1 (fun x4 s3 => ((x4 = 0 → Sat true (d + 2) 79 σ.1 Q 4 [some (vr 1 0), some (vi (mkM (fun p => bt (incS P p) p) p)), some (vi ((nI p) + nI 1))] [] s3) ∧ (¬ x4 = 0 → Sat true (d + 2) 79 σ.1 Q 4 [some (vr 1 0), some (vi ((mkM (fun p => bt (incS P p) p) p) ||| ((nI 1) <<< ((nI p) &&& 31)))), some (vi ((nI p) + nI 1))] [] s3))))))
      rw [addN]
      refine br_le (by omega) (by omega) (fun g => by omega) (fun _ => cal_i (e_includedFrom d cs (by omega)) rfl (cal_i (e_isIn (d + 1) σ _ (by omega)) rfl (brI (fun g => ?_) (fun g => ?_))))
      · rw [if_neg (by rw [g]; exact Bool.false_ne_true)] at nx
        exact nx
      · rw [if_pos g] at nx
        exact nx
  refine wp_ok (cut := [4]) ma_79 rfl 4 _ _ _ _ ?_
  show Sat true (d + 2) 79 σ.1 Q 4 [some (vr 1 0), some (vi (nI 0)), some (vi (nI 0))] [] σ
  exact loop 12 0 (by omega)
end
