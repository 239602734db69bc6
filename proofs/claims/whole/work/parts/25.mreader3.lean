/-! the model's reader: elements, lines, pages, redirects -/
/-- while good and ',' or ';': k is only a bound -/
def mEls (t : Nat → Nat) (n : Nat) : Nat → Nat → Bool × Nat
  | 0, a => mElem t n a
  | k + 1, a => match mElem t n a with
    | (false, a1) => (false, a1)
    | (true, a1) => match pT t n 44 a1 with
      | (false, a2) => (true, a2)
      | (true, a2) => mEls t n k a2
def mLine (t : Nat → Nat) (n a : Nat) : Bool × Nat := if isN t n 61 a then mHead t n a else if isN t n 123 a then pIncl t n a else mEls t n n a
def mPg (t : Nat → Nat) (n : Nat) : Nat → Nat → Bool × Nat
  | 0, a => mLine t n a
  | k + 1, a => match mLine t n a with
    | (false, a1) => (false, a1)
    | (true, a1) => match pT t n 59 a1 with
      | (false, a2) => (true, a2)
      | (true, a2) => mPg t n k a2
def mFin (n : Nat) (r : Bool × Nat) : Option Nat := if r.1 = true ∧ r.2 = n then none else some r.2
def mPageF (t : Nat → Nat) (n : Nat) : Option Nat := mFin n (mPg t n n 0)
section
variable {σ : Hp} {n : Nat} {t : Nat → Nat}
theorem mElem_b {a : Nat} (ha : a ≤ n) : a ≤ (mElem t n a).2 ∧ (mElem t n a).2 ≤ n := by
  unfold mElem
  split
  · rename_i a1 h1
    have := pTB_ff h1
    subst this
    have := mName_b (t := t) ha
    omega
  · rename_i a1 h1
    have e1 := pTB_tt h1
    have inner : a1 ≤ (mTgt t n a1).2 ∧ (mTgt t n a1).2 ≤ n := by
      unfold mTgt
      split
      · rename_i a2 h2
        have e2 := pTB_tt h2
        have := mAnchor_b (t := t) (show a2 ≤ n by omega)
        omega
      · rename_i a2 h2
        have e2 := pTB_ff h2
        have := mPlace_b (t := t) (show a2 ≤ n by omega)
        omega
    split
    · rename_i a3 h3; rw [h3] at inner; show a ≤ a3 ∧ a3 ≤ n; have inner : a1 ≤ a3 ∧ a3 ≤ n := inner; omega
    · rename_i a3 h3
      rw [h3] at inner
      have inner : a1 ≤ a3 ∧ a3 ≤ n := inner
      cases h4 : (pT t n 93 a3).1 with
      | true => have := pT_t h4; omega
      | false => rw [pT_f h4]; omega
theorem m_readElement (d : Nat) (hp : PadM σ n t) {a : Nat} (ha : a ≤ n) (g : Nat → Int32) : ∃ g', EI (d + 5) 126 [vr 233 0] (mr σ a g) (bI (mElem t n a).1) (mr σ (mElem t n a).2 g') := by
  rcases h1 : pT t n 91 a with ⟨b, a1⟩
  cases b with
  | false =>
    have e1 := pTB_ff h1
    subst e1
    obtain ⟨g', -, k⟩ := m_readName (d + 2) hp ha g
    have em : mElem t n a1 = mName t n a1 := by unfold mElem; rw [h1]
    rw [em]
    refine ⟨g', EI_of mt_126 (Nat.le_of_ble_eq_true rfl) fun Q hq => ?_⟩
    refine wp_ok (cut := []) ma_126 rfl 21 _ _ _ _ ?_
    show CalI true (d + 4) 116 [vr 233 0, vi (nI 91)] (mr σ a1 g) ((mr σ a1 g).1) (fun x2 s1 => ((¬ x2 = 0 → CalI true (d + 4) 116 [vr 233 0, vi (nI 35)] s1 ((mr σ a1 g).1) (fun x4 s3 => ((x4 = 0 → CalI true (d + 4) 123 [vr 233 0] s3 ((mr σ a1 g).1) (fun x6 s5 => ((x6 = 0 → (((nI 0) = 0 ∨ (nI 0) = 1) ∧ (Q (some (vi (nI 0))) s5 ∧ s5.1 = (mr σ a1 g).1))) ∧ (¬ x6 = 0 → CalI true (d + 4) 116 [vr 233 0, vi (nI 93)] s5 ((mr σ a1 g).1) (fun x8 s7 => ((x8 = 0 → (((nI 0) = 0 ∨ (nI 0) = 1) ∧ (Q (some (vi (nI 0))) s7 ∧ s7.1 = (mr σ a1 g).1))) ∧ (¬ x8 = 0 → (((nI 1) = 0 ∨ (nI 1) = 1) ∧ (Q (some (vi (nI 1))) s7 ∧ s7.1 = (mr σ a1 g).1))))))))) ∧ (¬ x4 = 0 → CalI true (d + 4) 121 [vr 233 0] s3 ((mr σ a1 g).1) (fun x10 s9 => ((x10 = 0 → (((nI 0) = 0 ∨ (nI 0) = 1) ∧ (Q (some (vi (nI 0))) s9 ∧ s9.1 = (mr σ a1 g).1))) ∧ (¬ x10 = 0 → CalI true (d + 4) 116 [vr 233 0, vi (nI 93)] s9 ((mr σ a1 g).1) (fun x12 s11 => ((x12 = 0 → (((nI 0) = 0 ∨ (nI 0) = 1) ∧ (Q (some (vi (nI 0))) s11 ∧ s11.1 = (mr σ a1 g).1))) ∧ (¬ x12 = 0 → (((nI 1) = 0 ∨ (nI 1) = 1) ∧ (Q (some (vi (nI 1))) s11 ∧ s11.1 = (mr σ a1 g).1)))))))))))) ∧ (x2 = 0 → CalI true (d + 4) 120 [vr 233 0] s1 ((mr σ a1 g).1) (fun x14 s13 => ((x14 = 0 ∨ x14 = 1) ∧ (Q (some (vi x14)) s13 ∧ s13.1 = (mr σ a1 g).1))))))
    refine cal_i (m_isNext (d + 3) hp ha (by omega) (by omega) g) rfl ?_
    rw [h1]
    exact b_f' (cal_i k rfl ⟨bI_01 _, hq, rfl⟩)
  | true =>
    obtain ⟨e1, hlt⟩ := pTB_tt h1
    subst e1
    rcases h2 : pT t n 35 (a + 1) with ⟨b, a2⟩
    cases b with
    | false =>
      have e2 := pTB_ff h2
      subst e2
      obtain ⟨g', -, k⟩ := m_readPlace d hp (show a + 1 ≤ n by omega) g
      have l3 := mPlace_b (t := t) (show a + 1 ≤ n by omega)
      rcases h3 : mPlace t n (a + 1) with ⟨b, a3⟩
      rw [h3] at k l3
      refine ⟨g', EI_of mt_126 (Nat.le_of_ble_eq_true rfl) fun Q hq => ?_⟩
      unfold mElem at hq
      simp only [mTgt, h1, h2, h3] at hq
      refine wp_ok (cut := []) ma_126 rfl 21 _ _ _ _ ?_
      show CalI true (d + 4) 116 [vr 233 0, vi (nI 91)] (mr σ a g) ((mr σ a g).1) (fun x2 s1 => ((¬ x2 = 0 → CalI true (d + 4) 116 [vr 233 0, vi (nI 35)] s1 ((mr σ a g).1) (fun x4 s3 => ((x4 = 0 → CalI true (d + 4) 123 [vr 233 0] s3 ((mr σ a g).1) (fun x6 s5 => ((x6 = 0 → (((nI 0) = 0 ∨ (nI 0) = 1) ∧ (Q (some (vi (nI 0))) s5 ∧ s5.1 = (mr σ a g).1))) ∧ (¬ x6 = 0 → CalI true (d + 4) 116 [vr 233 0, vi (nI 93)] s5 ((mr σ a g).1) (fun x8 s7 => ((x8 = 0 → (((nI 0) = 0 ∨ (nI 0) = 1) ∧ (Q (some (vi (nI 0))) s7 ∧ s7.1 = (mr σ a g).1))) ∧ (¬ x8 = 0 → (((nI 1) = 0 ∨ (nI 1) = 1) ∧ (Q (some (vi (nI 1))) s7 ∧ s7.1 = (mr σ a g).1))))))))) ∧ (¬ x4 = 0 → CalI true (d + 4) 121 [vr 233 0] s3 ((mr σ a g).1) (fun x10 s9 => ((x10 = 0 → (((nI 0) = 0 ∨ (nI 0) = 1) ∧ (Q (some (vi (nI 0))) s9 ∧ s9.1 = (mr σ a g).1))) ∧ (¬ x10 = 0 → CalI true (d + 4) 116 [vr 233 0, vi (nI 93)] s9 ((mr σ a g).1) (fun x12 s11 => ((x12 = 0 → (((nI 0) = 0 ∨ (nI 0) = 1) ∧ (Q (some (vi (nI 0))) s11 ∧ s11.1 = (mr σ a g).1))) ∧ (¬ x12 = 0 → (((nI 1) = 0 ∨ (nI 1) = 1) ∧ (Q (some (vi (nI 1))) s11 ∧ s11.1 = (mr σ a g).1)))))))))))) ∧ (x2 = 0 → CalI true (d + 4) 120 [vr 233 0] s1 ((mr σ a g).1) (fun x14 s13 => ((x14 = 0 ∨ x14 = 1) ∧ (Q (some (vi x14)) s13 ∧ s13.1 = (mr σ a g).1))))))
      refine cal_i (m_isNext (d + 3) hp ha (by omega) (by omega) g) rfl ?_
      rw [h1]
      refine b_t' (cal_i (m_isNext (d + 3) hp hlt (by omega) (by omega) g) rfl ?_)
      rw [h2]
      refine b_f (cal_i k rfl ?_)
      cases b with
      | false => exact b_f ⟨Or.inl rfl, hq, rfl⟩
      | true =>
        refine b_t (cal_i (m_isNext (d + 3) hp l3.2 (by omega) (by omega) g') rfl ?_)
        rcases h4 : pT t n 93 a3 with ⟨b, a4⟩
        simp only [h4] at hq
        cases b with
        | false => exact b_f ⟨Or.inl rfl, hq, rfl⟩
        | true => exact b_t ⟨Or.inr rfl, hq, rfl⟩
    | true =>
      obtain ⟨e2, hlt2⟩ := pTB_tt h2
      subst e2
      obtain ⟨g', -, k⟩ := m_readAnchor (d + 1) hp (show a + 1 + 1 ≤ n by omega) g
      have l3 := mAnchor_b (t := t) (show a + 1 + 1 ≤ n by omega)
      rcases h3 : mAnchor t n (a + 1 + 1) with ⟨b, a3⟩
      rw [h3] at k l3
      refine ⟨g', EI_of mt_126 (Nat.le_of_ble_eq_true rfl) fun Q hq => ?_⟩
      unfold mElem at hq
      simp only [mTgt, h1, h2, h3] at hq
      refine wp_ok (cut := []) ma_126 rfl 21 _ _ _ _ ?_
      show CalI true (d + 4) 116 [vr 233 0, vi (nI 91)] (mr σ a g) ((mr σ a g).1) (fun x2 s1 => ((¬ x2 = 0 → CalI true (d + 4) 116 [vr 233 0, vi (nI 35)] s1 ((mr σ a g).1) (fun x4 s3 => ((x4 = 0 → CalI true (d + 4) 123 [vr 233 0] s3 ((mr σ a g).1) (fun x6 s5 => ((x6 = 0 → (((nI 0) = 0 ∨ (nI 0) = 1) ∧ (Q (some (vi (nI 0))) s5 ∧ s5.1 = (mr σ a g).1))) ∧ (¬ x6 = 0 → CalI true (d + 4) 116 [vr 233 0, vi (nI 93)] s5 ((mr σ a g).1) (fun x8 s7 => ((x8 = 0 → (((nI 0) = 0 ∨ (nI 0) = 1) ∧ (Q (some (vi (nI 0))) s7 ∧ s7.1 = (mr σ a g).1))) ∧ (¬ x8 = 0 → (((nI 1) = 0 ∨ (nI 1) = 1) ∧ (Q (some (vi (nI 1))) s7 ∧ s7.1 = (mr σ a g).1))))))))) ∧ (¬ x4 = 0 → CalI true (d + 4) 121 [vr 233 0] s3 ((mr σ a g).1) (fun x10 s9 => ((x10 = 0 → (((nI 0) = 0 ∨ (nI 0) = 1) ∧ (Q (some (vi (nI 0))) s9 ∧ s9.1 = (mr σ a g).1))) ∧ (¬ x10 = 0 → CalI true (d + 4) 116 [vr 233 0, vi (nI 93)] s9 ((mr σ a g).1) (fun x12 s11 => ((x12 = 0 → (((nI 0) = 0 ∨ (nI 0) = 1) ∧ (Q (some (vi (nI 0))) s11 ∧ s11.1 = (mr σ a g).1))) ∧ (¬ x12 = 0 → (((nI 1) = 0 ∨ (nI 1) = 1) ∧ (Q (some (vi (nI 1))) s11 ∧ s11.1 = (mr σ a g).1)))))))))))) ∧ (x2 = 0 → CalI true (d + 4) 120 [vr 233 0] s1 ((mr σ a g).1) (fun x14 s13 => ((x14 = 0 ∨ x14 = 1) ∧ (Q (some (vi x14)) s13 ∧ s13.1 = (mr σ a g).1))))))
      refine cal_i (m_isNext (d + 3) hp ha (by omega) (by omega) g) rfl ?_
      rw [h1]
      refine b_t' (cal_i (m_isNext (d + 3) hp hlt (by omega) (by omega) g) rfl ?_)
      rw [h2]
      refine b_t (cal_i k rfl ?_)
      cases b with
      | false => exact b_f ⟨Or.inl rfl, hq, rfl⟩
      | true =>
        refine b_t (cal_i (m_isNext (d + 3) hp l3.2.1 (by omega) (by omega) g') rfl ?_)
        rcases h4 : pT t n 93 a3 with ⟨b, a4⟩
        simp only [h4] at hq
        cases b with
        | false => exact b_f ⟨Or.inl rfl, hq, rfl⟩
        | true => exact b_t ⟨Or.inr rfl, hq, rfl⟩
/-- the loop, behind a first element that ended at a with b; k bounds what is left -/
theorem s_mels (d : Nat) (hp : PadM σ n t) : ∀ (k a : Nat) (b : Bool) (g : Nat → Int32), a ≤ n → n ≤ a + k → ∃ g', ∀ Q : Option AV → Hp → Prop, (Q (some (vi (bI (match (b, a) with
      | (false, a1) => (false, a1)
      | (true, a1) => match pT t n 44 a1 with
        | (false, a2) => (true, a2)
        | (true, a2) => mEls t n (k - 1) a2).1))) (mr σ (match (b, a) with
      | (false, a1) => (false, a1)
      | (true, a1) => match pT t n 44 a1 with
        | (false, a2) => (true, a2)
        | (true, a2) => mEls t n (k - 1) a2).2 g')) → Sat true (d + 6) 127 σ.1 Q 5 [some (vr 233 0), some (vi (bI b))] [] (mr σ a g) := by
  intro k
  induction k with
  | zero =>
    intro a b g ha hk
    refine ⟨g, fun Q hq => ?_⟩
    refine wp_ok (cut := [5]) ma_127 rfl 10 _ _ _ _ ?_
    show (((bI b) = 0 → (((bI b) = 0 ∨ (bI b) = 1) ∧ (Q (some (vi (bI b))) (mr σ a g) ∧ (mr σ a g).1 = σ.1))) ∧ (¬ (bI b) = 0 → CalI true (d + 5) 116 [vr 233 0, vi (nI 44)] (mr σ a g) σ.1 (fun x2 s1 => ((x2 = 0 → (((bI b) = 0 ∨ (bI b) = 1) ∧ (Q (some (vi (bI b))) s1 ∧ s1.1 = σ.1))) ∧ (¬ x2 = 0 → CalI true (d + 5) 126 [vr 233 0] s1 σ.1 (fun x4 s3 => Sat true (d + 6) 127 σ.1 Q 5 [some (vr 233 0), some (vi x4)] [] s3))))))
    cases b with
    | false => exact b_f ⟨Or.inl rfl, hq, rfl⟩
    | true =>
      refine b_t (cal_i (m_isNext (d + 4) hp ha (by omega) (by omega) g) rfl ?_)
      rcases h1 : pT t n 44 a with ⟨b, a1⟩
      simp only [h1] at hq
      cases b with
      | false => exact b_f ⟨Or.inr rfl, hq, rfl⟩
      | true => have := pTB_tt h1; omega
  | succ k ih =>
    intro a b g ha hk
    cases b with
    | false =>
      refine ⟨g, fun Q hq => ?_⟩
      refine wp_ok (cut := [5]) ma_127 rfl 10 _ _ _ _ ?_
      show (((bI false) = 0 → (((bI false) = 0 ∨ (bI false) = 1) ∧ (Q (some (vi (bI false))) (mr σ a g) ∧ (mr σ a g).1 = σ.1))) ∧ (¬ (bI false) = 0 → CalI true (d + 5) 116 [vr 233 0, vi (nI 44)] (mr σ a g) σ.1 (fun x2 s1 => ((x2 = 0 → (((bI false) = 0 ∨ (bI false) = 1) ∧ (Q (some (vi (bI false))) s1 ∧ s1.1 = σ.1))) ∧ (¬ x2 = 0 → CalI true (d + 5) 126 [vr 233 0] s1 σ.1 (fun x4 s3 => Sat true (d + 6) 127 σ.1 Q 5 [some (vr 233 0), some (vi x4)] [] s3))))))
      exact b_f ⟨Or.inl rfl, hq, rfl⟩
    | true =>
      rcases h1 : pT t n 44 a with ⟨b, a1⟩
      cases b with
      | false =>
        refine ⟨g, fun Q hq => ?_⟩
        refine wp_ok (cut := [5]) ma_127 rfl 10 _ _ _ _ ?_
        show (((bI true) = 0 → (((bI true) = 0 ∨ (bI true) = 1) ∧ (Q (some (vi (bI true))) (mr σ a g) ∧ (mr σ a g).1 = σ.1))) ∧ (¬ (bI true) = 0 → CalI true (d + 5) 116 [vr 233 0, vi (nI 44)] (mr σ a g) σ.1 (fun x2 s1 => ((x2 = 0 → (((bI true) = 0 ∨ (bI true) = 1) ∧ (Q (some (vi (bI true))) s1 ∧ s1.1 = σ.1))) ∧ (¬ x2 = 0 → CalI true (d + 5) 126 [vr 233 0] s1 σ.1 (fun x4 s3 => Sat true (d + 6) 127 σ.1 Q 5 [some (vr 233 0), some (vi x4)] [] s3))))))
        simp only [h1] at hq
        refine b_t (cal_i (m_isNext (d + 4) hp ha (by omega) (by omega) g) rfl ?_)
        rw [h1]
        exact b_f ⟨Or.inr rfl, hq, rfl⟩
      | true =>
        obtain ⟨e1, hlt⟩ := pTB_tt h1
        subst e1
        obtain ⟨g1, k1⟩ := m_readElement d hp (show a + 1 ≤ n by omega) g
        have l1 := mElem_b (t := t) (show a + 1 ≤ n by omega)
        rcases h2 : mElem t n (a + 1) with ⟨b2, a2⟩
        rw [h2] at k1 l1
        have l1 : a + 1 ≤ a2 ∧ a2 ≤ n := l1
        obtain ⟨g2, hrest⟩ := ih a2 b2 g1 l1.2 (by omega)
        refine ⟨g2, fun Q hq => ?_⟩
        refine wp_ok (cut := [5]) ma_127 rfl 10 _ _ _ _ ?_
        show (((bI true) = 0 → (((bI true) = 0 ∨ (bI true) = 1) ∧ (Q (some (vi (bI true))) (mr σ a g) ∧ (mr σ a g).1 = σ.1))) ∧ (¬ (bI true) = 0 → CalI true (d + 5) 116 [vr 233 0, vi (nI 44)] (mr σ a g) σ.1 (fun x2 s1 => ((x2 = 0 → (((bI true) = 0 ∨ (bI true) = 1) ∧ (Q (some (vi (bI true))) s1 ∧ s1.1 = σ.1))) ∧ (¬ x2 = 0 → CalI true (d + 5) 126 [vr 233 0] s1 σ.1 (fun x4 s3 => Sat true (d + 6) 127 σ.1 Q 5 [some (vr 233 0), some (vi x4)] [] s3))))))
        simp only [Nat.add_sub_cancel] at hq
        refine b_t (cal_i (m_isNext (d + 4) hp ha (by omega) (by omega) g) rfl ?_)
        rw [h1]
        refine b_t (cal_i k1 rfl (hrest Q ?_))
        have em : mEls t n k (a + 1) = (match (b2, a2) with
          | (false, a1) => (false, a1)
          | (true, a1) => match pT t n 44 a1 with
            | (false, a2) => (true, a2)
            | (true, a2) => mEls t n (k - 1) a2) := by
          cases k with
          | zero =>
            show mElem t n (a + 1) = _
            rw [h2]
            cases b2 with
            | false => rfl
            | true =>
              dsimp only
              rcases h3 : pT t n 44 a2 with ⟨b3, a3⟩
              cases b3 with
              | false => have := pTB_ff h3; subst this; rfl
              | true => have := pTB_tt h3; omega
          | succ k =>
            conv => lhs; unfold mEls
            rw [h2]
            rfl
        rw [← em]
        simp only [h1] at hq
        exact hq
theorem m_readElements (d : Nat) (hp : PadM σ n t) {a : Nat} (ha : a ≤ n) (g : Nat → Int32) : ∃ g', EI (d + 6) 127 [vr 233 0] (mr σ a g) (bI (mEls t n n a).1) (mr σ (mEls t n n a).2 g') := by
  obtain ⟨g1, k1⟩ := m_readElement d hp ha g
  have l1 := mElem_b (t := t) ha
  rcases h2 : mElem t n a with ⟨b2, a2⟩
  rw [h2] at k1 l1
  have l1 : a ≤ a2 ∧ a2 ≤ n := l1
  obtain ⟨g2, hrest⟩ := s_mels d hp n a2 b2 g1 l1.2 (by omega)
  refine ⟨g2, EI_of mt_127 (Nat.le_of_ble_eq_true rfl) fun Q hq => ?_⟩
  refine wp_ok (cut := [5]) ma_127 rfl 3 _ _ _ _ ?_
  show CalI true (d + 5) 126 [vr 233 0] (mr σ a g) ((mr σ a g).1) (fun x2 s1 => Sat true (d + 6) 127 ((mr σ a g).1) Q 5 [some (vr 233 0), some (vi x2)] [] s1)
  refine cal_i k1 rfl (hrest Q ?_)
  have em : mEls t n n a = (match (b2, a2) with
    | (false, a1) => (false, a1)
    | (true, a1) => match pT t n 44 a1 with
      | (false, a2) => (true, a2)
      | (true, a2) => mEls t n (n - 1) a2) := by
    cases n with
    | zero =>
      show mElem t 0 a = _
      rw [h2]
      cases b2 with
      | false => rfl
      | true =>
        dsimp only
        rcases h3 : pT t 0 44 a2 with ⟨b3, a3⟩
        cases b3 with
        | false => have := pTB_ff h3; subst this; rfl
        | true => have := pTB_tt h3; omega
    | succ k =>
      conv => lhs; unfold mEls
      rw [h2]
      rfl
  rw [← em]
  exact hq
theorem mEls_b : ∀ (k a : Nat), a ≤ n → a ≤ (mEls t n k a).2 ∧ (mEls t n k a).2 ≤ n := by
  intro k
  induction k with
  | zero => intro a h; exact mElem_b h
  | succ k ih =>
    intro a h
    unfold mEls
    have l1 := mElem_b (t := t) h
    split
    · rename_i a1 h1; rw [h1] at l1; exact l1
    · rename_i a1 h1
      rw [h1] at l1
      have l1 : a ≤ a1 ∧ a1 ≤ n := l1
      split
      · rename_i a2 h2; have := pTB_ff h2; show a ≤ a2 ∧ a2 ≤ n; omega
      · rename_i a2 h2
        have := pTB_tt h2
        have := ih a2 (by omega)
        omega
theorem pIncl_ge {a : Nat} : a ≤ (pIncl t n a).2 := by
  have q : ∀ x y a, a ≤ (pTB t n x y a).2 := fun x y a => by
    unfold pTB
    split
    · exact Nat.le_succ a
    · exact Nat.le_refl a
  unfold pIncl
  have l1 := q 123 123 a
  split
  · rename_i a1 h1; unfold pT at h1; rw [h1] at l1; exact l1
  · rename_i a1 h1
    unfold pT at h1
    rw [h1] at l1
    have l1 : a ≤ a1 := l1
    have l2 := q 65 76 a1
    split
    · rename_i a2 h2; rw [h2] at l2; exact Nat.le_trans l1 l2
    · rename_i a2 h2
      rw [h2] at l2
      have l2 : a1 ≤ a2 := l2
      have l3 := q 43 43 a2
      split
      · rename_i a3 h3; unfold pT at h3; rw [h3] at l3; have l3 : a2 ≤ a3 := l3; have := q 125 125 a3; unfold pT; omega
      · rename_i a3 h3
        unfold pT at h3
        rw [h3] at l3
        have l3 : a2 ≤ a3 := l3
        have l4 := q 48 50 a3
        split
        · rename_i a4 h4; rw [h4] at l4; have l4 : a3 ≤ a4 := l4; show a ≤ a4; omega
        · rename_i a4 h4; rw [h4] at l4; have l4 : a3 ≤ a4 := l4; have := q 125 125 a4; unfold pT; omega
theorem mLine_b {a : Nat} (ha : a ≤ n) : a ≤ (mLine t n a).2 ∧ (mLine t n a).2 ≤ n := by
  unfold mLine
  split
  · unfold mHead
    have h1 := mEq_b (t := t) 3 a ha
    have h2 := mName_b (t := t) h1.2
    omega
  · split
    · exact ⟨pIncl_ge, pIncl_le ha⟩
    · exact mEls_b n a ha
theorem chr_isN (hp : PadM σ n t) {a c : Nat} (hc : 0 < c) : (chr t n a = c) ↔ isN t n c a = true := by
  unfold chr isN
  rw [decide_eq_true_iff]
  by_cases h : a < n
  · rw [if_pos h]; exact ⟨fun q => ⟨h, q⟩, fun q => q.2⟩
  · rw [if_neg h]; exact ⟨fun q => by omega, fun q => absurd q.1 h⟩
theorem m_readLine (d : Nat) (hp : PadM σ n t) {a : Nat} (ha : a ≤ n) (g : Nat → Int32) : ∃ g', EI (d + 7) 128 [vr 233 0] (mr σ a g) (bI (mLine t n a).1) (mr σ (mLine t n a).2 g') := by
  unfold mLine
  cases h1 : isN t n 61 a with
  | true =>
    obtain ⟨g', k⟩ := m_readHeading (d + 3) hp ha g
    refine ⟨g', EI_of mt_128 (Nat.le_of_ble_eq_true rfl) fun Q hq => ?_⟩
    rw [if_pos rfl] at hq
    refine wp_ok (cut := []) ma_128 rfl 12 _ _ _ _ ?_
    show CalI true (d + 6) 115 [vr 233 0] (mr σ a g) ((mr σ a g).1) (fun x2 s1 => ((¬ x2 = (nI 61) → CalI true (d + 6) 115 [vr 233 0] s1 ((mr σ a g).1) (fun x4 s3 => ((¬ x4 = (nI 123) → CalI true (d + 6) 127 [vr 233 0] s3 ((mr σ a g).1) (fun x6 s5 => ((x6 = 0 ∨ x6 = 1) ∧ (Q (some (vi x6)) s5 ∧ s5.1 = (mr σ a g).1)))) ∧ (x4 = (nI 123) → CalI true (d + 6) 125 [vr 233 0] s3 ((mr σ a g).1) (fun x8 s7 => ((x8 = 0 ∨ x8 = 1) ∧ (Q (some (vi x8)) s7 ∧ s7.1 = (mr σ a g).1))))))) ∧ (x2 = (nI 61) → CalI true (d + 6) 124 [vr 233 0] s1 ((mr σ a g).1) (fun x10 s9 => ((x10 = 0 ∨ x10 = 1) ∧ (Q (some (vi x10)) s9 ∧ s9.1 = (mr σ a g).1))))))
    refine cal_i (m_next (d + 6) hp ha g) rfl (br_ne (chr_big hp _) (by omega) (fun h => absurd ((chr_isN hp (by omega)).mpr h1) h) (fun _ => ?_))
    exact cal_i k rfl ⟨bI_01 _, hq, rfl⟩
  | false =>
    have n1 : chr t n a ≠ 61 := fun q => by rw [(chr_isN hp (by omega)).mp q] at h1; cases h1
    cases h2 : isN t n 123 a with
    | true =>
      refine ⟨g, EI_of mt_128 (Nat.le_of_ble_eq_true rfl) fun Q hq => ?_⟩
      rw [if_neg (by decide), if_pos rfl] at hq
      refine wp_ok (cut := []) ma_128 rfl 12 _ _ _ _ ?_
      show CalI true (d + 6) 115 [vr 233 0] (mr σ a g) ((mr σ a g).1) (fun x2 s1 => ((¬ x2 = (nI 61) → CalI true (d + 6) 115 [vr 233 0] s1 ((mr σ a g).1) (fun x4 s3 => ((¬ x4 = (nI 123) → CalI true (d + 6) 127 [vr 233 0] s3 ((mr σ a g).1) (fun x6 s5 => ((x6 = 0 ∨ x6 = 1) ∧ (Q (some (vi x6)) s5 ∧ s5.1 = (mr σ a g).1)))) ∧ (x4 = (nI 123) → CalI true (d + 6) 125 [vr 233 0] s3 ((mr σ a g).1) (fun x8 s7 => ((x8 = 0 ∨ x8 = 1) ∧ (Q (some (vi x8)) s7 ∧ s7.1 = (mr σ a g).1))))))) ∧ (x2 = (nI 61) → CalI true (d + 6) 124 [vr 233 0] s1 ((mr σ a g).1) (fun x10 s9 => ((x10 = 0 ∨ x10 = 1) ∧ (Q (some (vi x10)) s9 ∧ s9.1 = (mr σ a g).1))))))
      refine cal_i (m_next (d + 6) hp ha g) rfl (br_ne (chr_big hp _) (by omega) (fun _ => ?_) (fun h => absurd h n1))
      refine cal_i (m_next (d + 6) hp ha g) rfl (br_ne (chr_big hp _) (by omega) (fun h => absurd ((chr_isN hp (by omega)).mpr h2) h) (fun _ => ?_))
      exact cal_i (m_readInclude (d + 4) hp ha g) rfl ⟨bI_01 _, hq, rfl⟩
    | false =>
      have n2 : chr t n a ≠ 123 := fun q => by rw [(chr_isN hp (by omega)).mp q] at h2; cases h2
      obtain ⟨g', k⟩ := m_readElements d hp ha g
      refine ⟨g', EI_of mt_128 (Nat.le_of_ble_eq_true rfl) fun Q hq => ?_⟩
      rw [if_neg (by decide), if_neg (by decide)] at hq
      refine wp_ok (cut := []) ma_128 rfl 12 _ _ _ _ ?_
      show CalI true (d + 6) 115 [vr 233 0] (mr σ a g) ((mr σ a g).1) (fun x2 s1 => ((¬ x2 = (nI 61) → CalI true (d + 6) 115 [vr 233 0] s1 ((mr σ a g).1) (fun x4 s3 => ((¬ x4 = (nI 123) → CalI true (d + 6) 127 [vr 233 0] s3 ((mr σ a g).1) (fun x6 s5 => ((x6 = 0 ∨ x6 = 1) ∧ (Q (some (vi x6)) s5 ∧ s5.1 = (mr σ a g).1)))) ∧ (x4 = (nI 123) → CalI true (d + 6) 125 [vr 233 0] s3 ((mr σ a g).1) (fun x8 s7 => ((x8 = 0 ∨ x8 = 1) ∧ (Q (some (vi x8)) s7 ∧ s7.1 = (mr σ a g).1))))))) ∧ (x2 = (nI 61) → CalI true (d + 6) 124 [vr 233 0] s1 ((mr σ a g).1) (fun x10 s9 => ((x10 = 0 ∨ x10 = 1) ∧ (Q (some (vi x10)) s9 ∧ s9.1 = (mr σ a g).1))))))
      refine cal_i (m_next (d + 6) hp ha g) rfl (br_ne (chr_big hp _) (by omega) (fun _ => ?_) (fun h => absurd h n1))
      refine cal_i (m_next (d + 6) hp ha g) rfl (br_ne (chr_big hp _) (by omega) (fun _ => ?_) (fun h => absurd h n2))
      exact cal_i k rfl ⟨bI_01 _, hq, rfl⟩
/-- how a page's reading goes on behind a line that ended at a with b -/
def mPgN (t : Nat → Nat) (n k : Nat) (r : Bool × Nat) : Bool × Nat :=
  match r with
  | (false, a1) => (false, a1)
  | (true, a1) => match pT t n 59 a1 with
    | (false, a2) => (true, a2)
    | (true, a2) => mPg t n (k - 1) a2
theorem mPg_eq (k a : Nat) (ha : a ≤ n) (hk : n ≤ a + k) : mPg t n k a = mPgN t n k (mLine t n a) := by
  cases k with
  | zero =>
    show mLine t n a = _
    have l := mLine_b (t := t) ha
    unfold mPgN
    rcases h2 : mLine t n a with ⟨b2, a2⟩
    rw [h2] at l
    have l : a ≤ a2 ∧ a2 ≤ n := l
    cases b2 with
    | false => rfl
    | true =>
      dsimp only
      rcases h3 : pT t n 59 a2 with ⟨b3, a3⟩
      cases b3 with
      | false => have := pTB_ff h3; subst this; rfl
      | true => have := pTB_tt h3; omega
  | succ k =>
    conv => lhs; unfold mPg
    unfold mPgN
    rfl
theorem s_mpg (d : Nat) (hp : PadM σ n t) : ∀ (k a : Nat) (b : Bool) (g : Nat → Int32), a ≤ n → n ≤ a + k → ∃ g', ∀ Q : Option AV → Hp → Prop, Q (some (vi (fI (mFin n (mPgN t n k (b, a)))))) (mr σ (mPgN t n k (b, a)).2 g') → Sat true (d + 8) 129 σ.1 Q 10 [some (vr 233 0), some (vi (bI b))] [] (mr σ a g) := by
  have hn := hp.1
  have fin : ∀ (b : Bool) (a : Nat) (g : Nat → Int32) (Q : Option AV → Hp → Prop), a ≤ n → Q (some (vi (fI (mFin n (b, a))))) (mr σ a g) → ((bI b = 0 → (Q (some (vi (nI a))) (mr σ a g) ∧ (mr σ a g).1 = σ.1)) ∧ (¬ bI b = 0 → ((¬ nI a = hI σ 233 0 1 → (Q (some (vi (nI a))) (mr σ a g) ∧ (mr σ a g).1 = σ.1)) ∧ (nI a = hI σ 233 0 1 → (Q (some (vi (-6))) (mr σ a g) ∧ (mr σ a g).1 = σ.1))))) := by
    intro b a g Q ha hq
    rw [hp.2.1]
    unfold mFin at hq
    cases b with
    | false =>
      rw [if_neg (fun q => by cases q.1)] at hq
      exact b_f ⟨hq, rfl⟩
    | true =>
      refine b_t (br_ne (by omega) (by omega) (fun h => ?_) (fun h => ?_))
      · rw [if_neg (fun q => h q.2)] at hq
        exact ⟨hq, rfl⟩
      · rw [if_pos ⟨rfl, h⟩] at hq
        exact ⟨hq, rfl⟩
  intro k
  induction k with
  | zero =>
    intro a b g ha hk
    refine ⟨g, fun Q hq => ?_⟩
    unfold mPgN at hq
    refine wp_ok (cut := [10]) ma_129 rfl 16 _ _ _ _ ?_
    show (((bI b) = 0 → (((bI b) = 0 → (Q (some (vi (nI a))) (mr σ a g) ∧ (mr σ a g).1 = σ.1)) ∧ (¬ (bI b) = 0 → ((¬ (nI a) = (hI σ 233 0 1) → (Q (some (vi (nI a))) (mr σ a g) ∧ (mr σ a g).1 = σ.1)) ∧ ((nI a) = (hI σ 233 0 1) → (Q (some (vi (-6))) (mr σ a g) ∧ (mr σ a g).1 = σ.1)))))) ∧ (¬ (bI b) = 0 → CalI true (d + 7) 116 [vr 233 0, vi (nI 59)] (mr σ a g) σ.1 (fun x2 s1 => ((x2 = 0 → (((bI b) = 0 → (Q (some (vi (hI s1 233 0 6))) s1 ∧ s1.1 = σ.1)) ∧ (¬ (bI b) = 0 → ((¬ (hI s1 233 0 6) = (hI s1 233 0 1) → (Q (some (vi (hI s1 233 0 6))) s1 ∧ s1.1 = σ.1)) ∧ ((hI s1 233 0 6) = (hI s1 233 0 1) → (Q (some (vi (-6))) s1 ∧ s1.1 = σ.1)))))) ∧ (¬ x2 = 0 → CalI true (d + 7) 128 [vr 233 0] s1 σ.1 (fun x4 s3 => Sat true (d + 8) 129 σ.1 Q 10 [some (vr 233 0), some (vi x4)] [] s3))))))
    cases b with
    | false => exact b_f (fin false a g Q ha hq)
    | true =>
      refine b_t (cal_i (m_isNext (d + 6) hp ha (by omega) (by omega) g) rfl ?_)
      rcases h1 : pT t n 59 a with ⟨b, a1⟩
      simp only [h1] at hq
      cases b with
      | false =>
        have := pTB_ff h1
        subst this
        exact b_f (fin true a1 g Q ha hq)
      | true => have := pTB_tt h1; omega
  | succ k ih =>
    intro a b g ha hk
    cases b with
    | false =>
      refine ⟨g, fun Q hq => ?_⟩
      refine wp_ok (cut := [10]) ma_129 rfl 16 _ _ _ _ ?_
      show (((bI false) = 0 → (((bI false) = 0 → (Q (some (vi (nI a))) (mr σ a g) ∧ (mr σ a g).1 = σ.1)) ∧ (¬ (bI false) = 0 → ((¬ (nI a) = (hI σ 233 0 1) → (Q (some (vi (nI a))) (mr σ a g) ∧ (mr σ a g).1 = σ.1)) ∧ ((nI a) = (hI σ 233 0 1) → (Q (some (vi (-6))) (mr σ a g) ∧ (mr σ a g).1 = σ.1)))))) ∧ (¬ (bI false) = 0 → CalI true (d + 7) 116 [vr 233 0, vi (nI 59)] (mr σ a g) σ.1 (fun x2 s1 => ((x2 = 0 → (((bI false) = 0 → (Q (some (vi (hI s1 233 0 6))) s1 ∧ s1.1 = σ.1)) ∧ (¬ (bI false) = 0 → ((¬ (hI s1 233 0 6) = (hI s1 233 0 1) → (Q (some (vi (hI s1 233 0 6))) s1 ∧ s1.1 = σ.1)) ∧ ((hI s1 233 0 6) = (hI s1 233 0 1) → (Q (some (vi (-6))) s1 ∧ s1.1 = σ.1)))))) ∧ (¬ x2 = 0 → CalI true (d + 7) 128 [vr 233 0] s1 σ.1 (fun x4 s3 => Sat true (d + 8) 129 σ.1 Q 10 [some (vr 233 0), some (vi x4)] [] s3))))))
      exact b_f (fin false a g Q ha hq)
    | true =>
      rcases h1 : pT t n 59 a with ⟨b, a1⟩
      cases b with
      | false =>
        have := pTB_ff h1
        subst this
        refine ⟨g, fun Q hq => ?_⟩
        unfold mPgN at hq
        simp only [h1] at hq
        refine wp_ok (cut := [10]) ma_129 rfl 16 _ _ _ _ ?_
        show (((bI true) = 0 → (((bI true) = 0 → (Q (some (vi (nI a1))) (mr σ a1 g) ∧ (mr σ a1 g).1 = σ.1)) ∧ (¬ (bI true) = 0 → ((¬ (nI a1) = (hI σ 233 0 1) → (Q (some (vi (nI a1))) (mr σ a1 g) ∧ (mr σ a1 g).1 = σ.1)) ∧ ((nI a1) = (hI σ 233 0 1) → (Q (some (vi (-6))) (mr σ a1 g) ∧ (mr σ a1 g).1 = σ.1)))))) ∧ (¬ (bI true) = 0 → CalI true (d + 7) 116 [vr 233 0, vi (nI 59)] (mr σ a1 g) σ.1 (fun x2 s1 => ((x2 = 0 → (((bI true) = 0 → (Q (some (vi (hI s1 233 0 6))) s1 ∧ s1.1 = σ.1)) ∧ (¬ (bI true) = 0 → ((¬ (hI s1 233 0 6) = (hI s1 233 0 1) → (Q (some (vi (hI s1 233 0 6))) s1 ∧ s1.1 = σ.1)) ∧ ((hI s1 233 0 6) = (hI s1 233 0 1) → (Q (some (vi (-6))) s1 ∧ s1.1 = σ.1)))))) ∧ (¬ x2 = 0 → CalI true (d + 7) 128 [vr 233 0] s1 σ.1 (fun x4 s3 => Sat true (d + 8) 129 σ.1 Q 10 [some (vr 233 0), some (vi x4)] [] s3))))))
        refine b_t (cal_i (m_isNext (d + 6) hp ha (by omega) (by omega) g) rfl ?_)
        rw [h1]
        exact b_f (fin true a1 g Q ha hq)
      | true =>
        obtain ⟨e1, hlt⟩ := pTB_tt h1
        subst e1
        obtain ⟨g1, k1⟩ := m_readLine d hp (show a + 1 ≤ n by omega) g
        have l1 := mLine_b (t := t) (show a + 1 ≤ n by omega)
        have em := mPg_eq (t := t) (n := n) k (a + 1) (by omega) (by omega)
        rcases h2 : mLine t n (a + 1) with ⟨b2, a2⟩
        rw [h2] at k1 l1 em
        have l1 : a + 1 ≤ a2 ∧ a2 ≤ n := l1
        obtain ⟨g2, hrest⟩ := ih a2 b2 g1 l1.2 (by omega)
        refine ⟨g2, fun Q hq => ?_⟩
        have e0 : mPgN t n (k + 1) (true, a) = mPg t n k (a + 1) := by
          unfold mPgN
          simp only [h1, Nat.add_sub_cancel]
        rw [e0, em] at hq
        refine wp_ok (cut := [10]) ma_129 rfl 16 _ _ _ _ ?_
        show (((bI true) = 0 → (((bI true) = 0 → (Q (some (vi (nI a))) (mr σ a g) ∧ (mr σ a g).1 = σ.1)) ∧ (¬ (bI true) = 0 → ((¬ (nI a) = (hI σ 233 0 1) → (Q (some (vi (nI a))) (mr σ a g) ∧ (mr σ a g).1 = σ.1)) ∧ ((nI a) = (hI σ 233 0 1) → (Q (some (vi (-6))) (mr σ a g) ∧ (mr σ a g).1 = σ.1)))))) ∧ (¬ (bI true) = 0 → CalI true (d + 7) 116 [vr 233 0, vi (nI 59)] (mr σ a g) σ.1 (fun x2 s1 => ((x2 = 0 → (((bI true) = 0 → (Q (some (vi (hI s1 233 0 6))) s1 ∧ s1.1 = σ.1)) ∧ (¬ (bI true) = 0 → ((¬ (hI s1 233 0 6) = (hI s1 233 0 1) → (Q (some (vi (hI s1 233 0 6))) s1 ∧ s1.1 = σ.1)) ∧ ((hI s1 233 0 6) = (hI s1 233 0 1) → (Q (some (vi (-6))) s1 ∧ s1.1 = σ.1)))))) ∧ (¬ x2 = 0 → CalI true (d + 7) 128 [vr 233 0] s1 σ.1 (fun x4 s3 => Sat true (d + 8) 129 σ.1 Q 10 [some (vr 233 0), some (vi x4)] [] s3))))))
        refine b_t (cal_i (m_isNext (d + 6) hp ha (by omega) (by omega) g) rfl ?_)
        rw [h1]
        exact b_t (cal_i k1 rfl (hrest Q hq))
theorem m_faultOfPage (d : Nat) (hp : PadM σ n t) (a0 : Nat) (g : Nat → Int32) : ∃ (a' : Nat) (g' : Nat → Int32), EI (d + 8) 129 [vr 233 0] (mr σ a0 g) (fI (mPageF t n)) (mr σ a' g') := by
  obtain ⟨g1, k1⟩ := m_readLine d hp (Nat.zero_le n) g
  have l1 := mLine_b (t := t) (Nat.zero_le n)
  have em := mPg_eq (t := t) (n := n) n 0 (Nat.zero_le n) (by omega)
  rcases h2 : mLine t n 0 with ⟨b2, a2⟩
  rw [h2] at k1 l1 em
  obtain ⟨g2, hrest⟩ := s_mpg d hp n a2 b2 g1 l1.2 (by omega)
  refine ⟨(mPgN t n n (b2, a2)).2, g2, EI_of mt_129 (Nat.le_of_ble_eq_true rfl) fun Q hq => ?_⟩
  refine wp_ok (cut := [10]) ma_129 rfl 6 _ _ _ _ ?_
  show CalI true (d + 7) 128 [vr 233 0] (setI (mr σ a0 g) 233 0 6 (nI 0)) ((mr σ a0 g).1) (fun x2 s1 => Sat true (d + 8) 129 ((mr σ a0 g).1) Q 10 [some (vr 233 0), some (vi x2)] [] s1)
  rw [mr_at]
  refine cal_i k1 rfl (hrest Q ?_)
  unfold mPageF at hq
  rw [em] at hq
  exact hq
end
