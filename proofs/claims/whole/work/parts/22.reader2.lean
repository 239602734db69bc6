/-! the class's Reader: lines, pages, redirects -/
def pPlace (t : Nat → Nat) (n a : Nat) : Bool × Nat :=
  match pTB t n 65 76 a with
  | (false, a1) => (false, a1)
  | (true, a1) => if isN t n 35 a1 then pAnchor t n a1 else (true, a1)
def pEq (t : Nat → Nat) (n : Nat) : Nat → Nat → Nat
  | 0, a => a
  | k + 1, a => pEq t n k (pT t n 61 a).2
def pHead (t : Nat → Nat) (n a : Nat) : Bool × Nat := pName t n (pEq t n 3 a)
def pIncl (t : Nat → Nat) (n a : Nat) : Bool × Nat :=
  match pT t n 123 a with
  | (false, a1) => (false, a1)
  | (true, a1) => match pTB t n 65 76 a1 with
    | (false, a2) => (false, a2)
    | (true, a2) => match pT t n 43 a2 with
      | (false, a3) => pT t n 125 a3
      | (true, a3) => match pTB t n 48 50 a3 with
        | (false, a4) => (false, a4)
        | (true, a4) => pT t n 125 a4
def pElem (t : Nat → Nat) (n a : Nat) : Bool × Nat :=
  match pT t n 91 a with
  | (false, a1) => pName t n a1
  | (true, a1) => match pTB t n 65 76 a1 with
    | (b, a2) => if isN t n 35 a2 then (match pAnchor t n a2 with
      | (false, a3) => (false, a3)
      | (true, a3) => pT t n 93 a3) else if b then pT t n 93 a2 else (false, a2)
def pEls (t : Nat → Nat) (n : Nat) : Nat → Nat → Bool × Nat
  | 0, a => (false, a)
  | k + 1, a => match pElem t n a with
    | (false, a1) => (false, a1)
    | (true, a1) => match pT t n 44 a1 with
      | (false, a2) => (true, a2)
      | (true, a2) => pEls t n k a2
def pLine (t : Nat → Nat) (n a : Nat) : Bool × Nat := if isN t n 61 a then pHead t n a else if isN t n 123 a then pIncl t n a else pEls t n (n + 1) a
/-- the fault; none: there is none -/
def pPg (t : Nat → Nat) (n : Nat) : Nat → Nat → Option Nat
  | 0, a => some a
  | k + 1, a => match pLine t n a with
    | (false, a1) => some a1
    | (true, a1) => match pT t n 59 a1 with
      | (false, a2) => if a2 = n then none else some a2
      | (true, a2) => pPg t n k a2
def pageF (t : Nat → Nat) (n : Nat) : Option Nat := pPg t n (n + 1) 0
def redF (t : Nat → Nat) (n : Nat) : Option Nat :=
  match pPlace t n 0 with
  | (false, a1) => some a1
  | (true, a1) => match pT t n 62 a1 with
    | (false, a2) => some a2
    | (true, a2) => match pPlace t n a2 with
      | (false, a3) => some a3
      | (true, a3) => if a3 = n then none else some a3
def fI (o : Option Nat) : Int32 := match o with
  | none => -6
  | some a => nI a
section
variable {σ : Hp} {n : Nat} {t : Nat → Nat}
theorem pAnchor_le {a : Nat} (ha : a ≤ n) : (pAnchor t n a).2 ≤ n := by
  unfold pAnchor
  have l1 := pT_le (t := t) (x := 35) ha
  split
  · rename_i a1 h1; rw [h1] at l1; exact l1
  · rename_i a1 h1
    rw [h1] at l1
    have l2 := pName_le (t := t) l1
    split
    · rename_i a2 h2; rw [h2] at l2; exact l2
    · rename_i a2 h2
      rw [h2] at l2
      have l3 := pT_le (t := t) (x := 45) l2
      split
      · rename_i a3 h3; rw [h3] at l3; exact l3
      · rename_i a3 h3
        rw [h3] at l3
        have l4 := pTB_le (t := t) (x := 49) (y := 57) l3
        split
        · rename_i a4 h4; rw [h4] at l4; exact l4
        · rename_i a4 h4; rw [h4] at l4; exact pTB_le l4
theorem pPlace_le {a : Nat} (ha : a ≤ n) : (pPlace t n a).2 ≤ n := by
  unfold pPlace
  have l1 := pTB_le (t := t) (x := 65) (y := 76) ha
  split
  · rename_i a1 h1; rw [h1] at l1; exact l1
  · rename_i a1 h1
    rw [h1] at l1
    split
    · exact pAnchor_le l1
    · exact l1
theorem pEq_le : ∀ (k a : Nat), a ≤ n → pEq t n k a ≤ n := by
  intro k
  induction k with
  | zero => intro a h; exact h
  | succ k ih => intro a h; exact ih _ (pT_le h)
theorem pHead_le {a : Nat} (ha : a ≤ n) : (pHead t n a).2 ≤ n := pName_le (pEq_le 3 a ha)
theorem pIncl_le {a : Nat} (ha : a ≤ n) : (pIncl t n a).2 ≤ n := by
  unfold pIncl
  have l1 := pT_le (t := t) (x := 123) ha
  split
  · rename_i a1 h1; rw [h1] at l1; exact l1
  · rename_i a1 h1
    rw [h1] at l1
    have l2 := pTB_le (t := t) (x := 65) (y := 76) l1
    split
    · rename_i a2 h2; rw [h2] at l2; exact l2
    · rename_i a2 h2
      rw [h2] at l2
      have l3 := pT_le (t := t) (x := 43) l2
      split
      · rename_i a3 h3; rw [h3] at l3; exact pT_le l3
      · rename_i a3 h3
        rw [h3] at l3
        have l4 := pTB_le (t := t) (x := 48) (y := 50) l3
        split
        · rename_i a4 h4; rw [h4] at l4; exact l4
        · rename_i a4 h4; rw [h4] at l4; exact pT_le l4
theorem pElem_le {a : Nat} (ha : a ≤ n) : (pElem t n a).2 ≤ n := by
  unfold pElem
  have l1 := pT_le (t := t) (x := 91) ha
  split
  · rename_i a1 h1; rw [h1] at l1; exact pName_le l1
  · rename_i a1 h1
    rw [h1] at l1
    have l2 := pTB_le (t := t) (x := 65) (y := 76) l1
    split
    rename_i b a2 h2
    rw [h2] at l2
    split
    · have l3 := pAnchor_le (t := t) l2
      split
      · rename_i a3 h3; rw [h3] at l3; exact l3
      · rename_i a3 h3; rw [h3] at l3; exact pT_le l3
    · split
      · exact pT_le l2
      · exact l2
theorem pEls_le : ∀ (k a : Nat), a ≤ n → (pEls t n k a).2 ≤ n := by
  intro k
  induction k with
  | zero => intro a h; exact h
  | succ k ih =>
    intro a h
    unfold pEls
    have l1 := pElem_le (t := t) h
    split
    · rename_i a1 h1; rw [h1] at l1; exact l1
    · rename_i a1 h1
      rw [h1] at l1
      have l2 := pT_le (t := t) (x := 44) l1
      split
      · rename_i a2 h2; rw [h2] at l2; exact l2
      · rename_i a2 h2; rw [h2] at l2; exact ih _ l2
theorem pLine_le {a : Nat} (ha : a ≤ n) : (pLine t n a).2 ≤ n := by
  unfold pLine
  split
  · exact pHead_le ha
  · split
    · exact pIncl_le ha
    · exact pEls_le _ _ ha
theorem e_takePlace (d : Nat) (hp : PadC σ n t) {a : Nat} (ha : a ≤ n) : EI (d + 3) 39 [vr 5 0] (rh σ n a) (bI (pPlace t n a).1) (rh σ n (pPlace t n a).2) := by
  refine EI_of mt_39 (Nat.le_of_ble_eq_true rfl) fun Q hq => ?_
  refine wp_ok (cut := []) ma_39 rfl 15 _ _ _ _ ?_
  show CalI true (d + 2) 34 [vr 5 0, vi (nI 65), vi (nI 76)] (rh σ n a) ((rh σ n a).1) (fun x2 s1 => ((x2 = 0 → (((nI 0) = 0 ∨ (nI 0) = 1) ∧ (Q (some (vi (nI 0))) s1 ∧ s1.1 = (rh σ n a).1))) ∧ (¬ x2 = 0 → CalI true (d + 2) 32 [vr 5 0, vi (nI 35)] s1 ((rh σ n a).1) (fun x4 s3 => ((x4 = 0 → (((nI 1) = 0 ∨ (nI 1) = 1) ∧ (Q (some (vi (nI 1))) s3 ∧ s3.1 = (rh σ n a).1))) ∧ (¬ x4 = 0 → CalI true (d + 2) 40 [vr 5 0] s3 ((rh σ n a).1) (fun x6 s5 => ((x6 = 0 → (((nI 0) = 0 ∨ (nI 0) = 1) ∧ (Q (some (vi (nI 0))) s5 ∧ s5.1 = (rh σ n a).1))) ∧ (¬ x6 = 0 → (((nI 1) = 0 ∨ (nI 1) = 1) ∧ (Q (some (vi (nI 1))) s5 ∧ s5.1 = (rh σ n a).1)))))))))))
  unfold pPlace at hq
  refine cal_i (e_takeBetween (d + 2) hp (by omega) (by omega) ha) rfl ?_
  have l1 := pTB_le (t := t) (x := 65) (y := 76) ha
  rcases h1 : pTB t n 65 76 a with ⟨b, a1⟩
  rw [h1] at hq l1
  cases b with
  | false => exact b_f ⟨Or.inl rfl, hq, rfl⟩
  | true =>
    refine b_t (cal_i (e_isNext (d + 2) hp (by omega) l1) rfl ?_)
    dsimp only at hq
    cases h2 : isN t n 35 a1 with
    | false =>
      rw [h2, if_neg (by decide)] at hq
      exact b_f ⟨Or.inr rfl, hq, rfl⟩
    | true =>
      rw [h2, if_pos rfl] at hq
      refine b_t (cal_i (e_takeAnchor d hp l1) rfl ?_)
      rcases h3 : pAnchor t n a1 with ⟨b, a2⟩
      rw [h3] at hq
      cases b with
      | false => exact b_f ⟨Or.inl rfl, hq, rfl⟩
      | true => exact b_t ⟨Or.inr rfl, hq, rfl⟩
theorem s_headLoop (d : Nat) (hp : PadC σ n t) (Q : Option AV → Hp → Prop) : ∀ (k i a : Nat), i + k = 3 → a ≤ n → Q (some (vi (bI (pName t n (pEq t n k a)).1))) (rh σ n (pName t n (pEq t n k a)).2) → Sat true (d + 2) 36 σ.1 Q 2 [some (vr 5 0), some (vi (nI i))] [] (rh σ n a) := by
  intro k
  induction k with
  | zero =>
    intro i a hi ha hq
    refine wp_ok (cut := [2]) ma_36 rfl 9 _ _ _ _ ?_
    show (((nI 3) ≤ (nI i) → CalI true (d + 1) 41 [vr 5 0] (rh σ n a) σ.1 (fun x2 s1 => ((x2 = 0 ∨ x2 = 1) ∧ (Q (some (vi x2)) s1 ∧ s1.1 = σ.1)))) ∧ (¬ (nI 3) ≤ (nI i) → CalI true (d + 1) 33 [vr 5 0, vi (nI 61)] (rh σ n a) σ.1 (fun x4 s3 => Sat true (d + 2) 36 σ.1 Q 2 [some (vr 5 0), some (vi ((nI i) + nI 1))] [] s3)))
    exact br_le (by omega) (by omega) (fun h => cal_i (e_takeName d hp ha) rfl ⟨bI_01 _, hq, rfl⟩) (fun h => by omega)
  | succ k ih =>
    intro i a hi ha hq
    refine wp_ok (cut := [2]) ma_36 rfl 9 _ _ _ _ ?_
    show (((nI 3) ≤ (nI i) → CalI true (d + 1) 41 [vr 5 0] (rh σ n a) σ.1 (fun x2 s1 => ((x2 = 0 ∨ x2 = 1) ∧ (Q (some (vi x2)) s1 ∧ s1.1 = σ.1)))) ∧ (¬ (nI 3) ≤ (nI i) → CalI true (d + 1) 33 [vr 5 0, vi (nI 61)] (rh σ n a) σ.1 (fun x4 s3 => Sat true (d + 2) 36 σ.1 Q 2 [some (vr 5 0), some (vi ((nI i) + nI 1))] [] s3)))
    refine br_le (by omega) (by omega) (fun h => by omega) (fun h => ?_)
    refine cal_i (e_take d hp (by omega) ha) rfl ?_
    rw [addN]
    exact ih (i + 1) _ (by omega) (pT_le ha) hq
theorem e_takeHeading (d : Nat) (hp : PadC σ n t) {a : Nat} (ha : a ≤ n) : EI (d + 2) 36 [vr 5 0] (rh σ n a) (bI (pHead t n a).1) (rh σ n (pHead t n a).2) := by
  refine EI_of mt_36 (Nat.le_of_ble_eq_true rfl) fun Q hq => ?_
  refine wp_ok (cut := [2]) ma_36 rfl 2 _ _ _ _ ?_
  show Sat true (d + 2) 36 ((rh σ n a).1) Q 2 [some (vr 5 0), some (vi (nI 0))] [] (rh σ n a)
  exact s_headLoop d hp Q 3 0 a (by omega) ha hq
theorem e_takeInclude (d : Nat) (hp : PadC σ n t) {a : Nat} (ha : a ≤ n) : EI (d + 2) 37 [vr 5 0] (rh σ n a) (bI (pIncl t n a).1) (rh σ n (pIncl t n a).2) := by
  refine EI_of mt_37 (Nat.le_of_ble_eq_true rfl) fun Q hq => ?_
  refine wp_ok (cut := []) ma_37 rfl 22 _ _ _ _ ?_
  show CalI true (d + 1) 33 [vr 5 0, vi (nI 123)] (rh σ n a) ((rh σ n a).1) (fun x2 s1 => ((x2 = 0 → (((nI 0) = 0 ∨ (nI 0) = 1) ∧ (Q (some (vi (nI 0))) s1 ∧ s1.1 = (rh σ n a).1))) ∧ (¬ x2 = 0 → CalI true (d + 1) 34 [vr 5 0, vi (nI 65), vi (nI 76)] s1 ((rh σ n a).1) (fun x4 s3 => ((¬ x4 = 0 → CalI true (d + 1) 33 [vr 5 0, vi (nI 43)] s3 ((rh σ n a).1) (fun x6 s5 => ((x6 = 0 → CalI true (d + 1) 33 [vr 5 0, vi (nI 125)] s5 ((rh σ n a).1) (fun x8 s7 => ((x8 = 0 ∨ x8 = 1) ∧ (Q (some (vi x8)) s7 ∧ s7.1 = (rh σ n a).1)))) ∧ (¬ x6 = 0 → CalI true (d + 1) 34 [vr 5 0, vi (nI 48), vi (nI 50)] s5 ((rh σ n a).1) (fun x10 s9 => ((¬ x10 = 0 → CalI true (d + 1) 33 [vr 5 0, vi (nI 125)] s9 ((rh σ n a).1) (fun x12 s11 => ((x12 = 0 ∨ x12 = 1) ∧ (Q (some (vi x12)) s11 ∧ s11.1 = (rh σ n a).1)))) ∧ (x10 = 0 → (((nI 0) = 0 ∨ (nI 0) = 1) ∧ (Q (some (vi (nI 0))) s9 ∧ s9.1 = (rh σ n a).1))))))))) ∧ (x4 = 0 → (((nI 0) = 0 ∨ (nI 0) = 1) ∧ (Q (some (vi (nI 0))) s3 ∧ s3.1 = (rh σ n a).1))))))))
  unfold pIncl at hq
  refine cal_i (e_take d hp (by omega) ha) rfl ?_
  have l1 := pT_le (t := t) (x := 123) ha
  rcases h1 : pT t n 123 a with ⟨b, a1⟩
  rw [h1] at hq l1
  cases b with
  | false => exact b_f ⟨Or.inl rfl, hq, rfl⟩
  | true =>
    refine b_t (cal_i (e_takeBetween (d + 1) hp (by omega) (by omega) l1) rfl ?_)
    have l2 := pTB_le (t := t) (x := 65) (y := 76) l1
    rcases h2 : pTB t n 65 76 a1 with ⟨b, a2⟩
    simp only [h2] at hq l2
    cases b with
    | false => exact b_f' ⟨Or.inl rfl, hq, rfl⟩
    | true =>
      refine b_t' (cal_i (e_take d hp (by omega) l2) rfl ?_)
      have l3 := pT_le (t := t) (x := 43) l2
      rcases h3 : pT t n 43 a2 with ⟨b, a3⟩
      simp only [h3] at hq l3
      cases b with
      | false => exact b_f (cal_i (e_take d hp (by omega) l3) rfl ⟨bI_01 _, hq, rfl⟩)
      | true =>
        refine b_t (cal_i (e_takeBetween (d + 1) hp (by omega) (by omega) l3) rfl ?_)
        have l4 := pTB_le (t := t) (x := 48) (y := 50) l3
        rcases h4 : pTB t n 48 50 a3 with ⟨b, a4⟩
        simp only [h4] at hq l4
        cases b with
        | false => exact b_f' ⟨Or.inl rfl, hq, rfl⟩
        | true => exact b_t' (cal_i (e_take d hp (by omega) l4) rfl ⟨bI_01 _, hq, rfl⟩)
theorem e_takeElement (d : Nat) (hp : PadC σ n t) {a : Nat} (ha : a ≤ n) : EI (d + 3) 38 [vr 5 0] (rh σ n a) (bI (pElem t n a).1) (rh σ n (pElem t n a).2) := by
  refine EI_of mt_38 (Nat.le_of_ble_eq_true rfl) fun Q hq => ?_
  refine wp_ok (cut := []) ma_38 rfl 23 _ _ _ _ ?_
  show CalI true (d + 2) 33 [vr 5 0, vi (nI 91)] (rh σ n a) ((rh σ n a).1) (fun x2 s1 => ((¬ x2 = 0 → CalI true (d + 2) 34 [vr 5 0, vi (nI 65), vi (nI 76)] s1 ((rh σ n a).1) (fun x4 s3 => CalI true (d + 2) 32 [vr 5 0, vi (nI 35)] s3 ((rh σ n a).1) (fun x6 s5 => ((x6 = 0 → ((x4 = 0 → (((nI 0) = 0 ∨ (nI 0) = 1) ∧ (Q (some (vi (nI 0))) s5 ∧ s5.1 = (rh σ n a).1))) ∧ (¬ x4 = 0 → CalI true (d + 2) 33 [vr 5 0, vi (nI 93)] s5 ((rh σ n a).1) (fun x8 s7 => ((x8 = 0 → (((nI 0) = 0 ∨ (nI 0) = 1) ∧ (Q (some (vi (nI 0))) s7 ∧ s7.1 = (rh σ n a).1))) ∧ (¬ x8 = 0 → (((nI 1) = 0 ∨ (nI 1) = 1) ∧ (Q (some (vi (nI 1))) s7 ∧ s7.1 = (rh σ n a).1)))))))) ∧ (¬ x6 = 0 → CalI true (d + 2) 40 [vr 5 0] s5 ((rh σ n a).1) (fun x10 s9 => ((x10 = 0 → (((nI 0) = 0 ∨ (nI 0) = 1) ∧ (Q (some (vi (nI 0))) s9 ∧ s9.1 = (rh σ n a).1))) ∧ (¬ x10 = 0 → CalI true (d + 2) 33 [vr 5 0, vi (nI 93)] s9 ((rh σ n a).1) (fun x12 s11 => ((x12 = 0 → (((nI 0) = 0 ∨ (nI 0) = 1) ∧ (Q (some (vi (nI 0))) s11 ∧ s11.1 = (rh σ n a).1))) ∧ (¬ x12 = 0 → (((nI 1) = 0 ∨ (nI 1) = 1) ∧ (Q (some (vi (nI 1))) s11 ∧ s11.1 = (rh σ n a).1))))))))))))) ∧ (x2 = 0 → CalI true (d + 2) 41 [vr 5 0] s1 ((rh σ n a).1) (fun x14 s13 => ((x14 = 0 ∨ x14 = 1) ∧ (Q (some (vi x14)) s13 ∧ s13.1 = (rh σ n a).1))))))
  unfold pElem at hq
  refine cal_i (e_take (d + 1) hp (by omega) ha) rfl ?_
  have l1 := pT_le (t := t) (x := 91) ha
  rcases h1 : pT t n 91 a with ⟨b, a1⟩
  rw [h1] at hq l1
  cases b with
  | false => exact b_f' (cal_i (e_takeName (d + 1) hp l1) rfl ⟨bI_01 _, hq, rfl⟩)
  | true =>
    refine b_t' (cal_i (e_takeBetween (d + 2) hp (by omega) (by omega) l1) rfl ?_)
    have l2 := pTB_le (t := t) (x := 65) (y := 76) l1
    rcases h2 : pTB t n 65 76 a1 with ⟨b, a2⟩
    simp only [h2] at hq l2
    refine cal_i (e_isNext (d + 2) hp (by omega) l2) rfl ?_
    cases h3 : isN t n 35 a2 with
    | true =>
      rw [h3, if_pos rfl] at hq
      refine b_t (cal_i (e_takeAnchor d hp l2) rfl ?_)
      have l4 := pAnchor_le (t := t) l2
      rcases h4 : pAnchor t n a2 with ⟨b4, a3⟩
      simp only [h4] at hq l4
      cases b4 with
      | false => exact b_f ⟨Or.inl rfl, hq, rfl⟩
      | true =>
        refine b_t (cal_i (e_take (d + 1) hp (by omega) l4) rfl ?_)
        rcases h5 : pT t n 93 a3 with ⟨b5, a4⟩
        simp only [h5] at hq
        cases b5 with
        | false => exact b_f ⟨Or.inl rfl, hq, rfl⟩
        | true => exact b_t ⟨Or.inr rfl, hq, rfl⟩
    | false =>
      rw [h3, if_neg (by decide)] at hq
      refine b_f ?_
      cases b with
      | false =>
        rw [if_neg (by decide)] at hq
        exact b_f ⟨Or.inl rfl, hq, rfl⟩
      | true =>
        rw [if_pos rfl] at hq
        refine b_t (cal_i (e_take (d + 1) hp (by omega) l2) rfl ?_)
        rcases h5 : pT t n 93 a2 with ⟨b5, a4⟩
        simp only [h5] at hq
        cases b5 with
        | false => exact b_f ⟨Or.inl rfl, hq, rfl⟩
        | true => exact b_t ⟨Or.inr rfl, hq, rfl⟩
theorem s_elsLoop (d : Nat) (hp : PadC σ n t) (Q : Option AV → Hp → Prop) : ∀ (k i a : Nat), i + k = n + 1 → a ≤ n → Q (some (vi (bI (pEls t n k a).1))) (rh σ n (pEls t n k a).2) → Sat true (d + 4) 35 σ.1 Q 30 [some (vr 5 0), some (vi (nI i))] [] (rh σ n a) := by
  have hn := hp.1
  intro k
  induction k with
  | zero =>
    intro i a hi ha hq
    refine wp_ok (cut := [30]) ma_35 rfl 13 _ _ _ _ ?_
    show (((nI n) < (nI i) → (((nI 0) = 0 ∨ (nI 0) = 1) ∧ (Q (some (vi (nI 0))) (rh σ n a) ∧ (rh σ n a).1 = σ.1))) ∧ (¬ (nI n) < (nI i) → CalI true (d + 3) 38 [vr 5 0] (rh σ n a) σ.1 (fun x2 s1 => ((¬ x2 = 0 → CalI true (d + 3) 33 [vr 5 0, vi (nI 44)] s1 σ.1 (fun x4 s3 => ((¬ x4 = 0 → Sat true (d + 4) 35 σ.1 Q 30 [some (vr 5 0), some (vi ((nI i) + nI 1))] [] s3) ∧ (x4 = 0 → (((nI 1) = 0 ∨ (nI 1) = 1) ∧ (Q (some (vi (nI 1))) s3 ∧ s3.1 = σ.1)))))) ∧ (x2 = 0 → (((nI 0) = 0 ∨ (nI 0) = 1) ∧ (Q (some (vi (nI 0))) s1 ∧ s1.1 = σ.1)))))))
    exact br_lt (by omega) (by omega) (fun h => ⟨Or.inl rfl, hq, rfl⟩) (fun h => by omega)
  | succ k ih =>
    intro i a hi ha hq
    refine wp_ok (cut := [30]) ma_35 rfl 13 _ _ _ _ ?_
    show (((nI n) < (nI i) → (((nI 0) = 0 ∨ (nI 0) = 1) ∧ (Q (some (vi (nI 0))) (rh σ n a) ∧ (rh σ n a).1 = σ.1))) ∧ (¬ (nI n) < (nI i) → CalI true (d + 3) 38 [vr 5 0] (rh σ n a) σ.1 (fun x2 s1 => ((¬ x2 = 0 → CalI true (d + 3) 33 [vr 5 0, vi (nI 44)] s1 σ.1 (fun x4 s3 => ((¬ x4 = 0 → Sat true (d + 4) 35 σ.1 Q 30 [some (vr 5 0), some (vi ((nI i) + nI 1))] [] s3) ∧ (x4 = 0 → (((nI 1) = 0 ∨ (nI 1) = 1) ∧ (Q (some (vi (nI 1))) s3 ∧ s3.1 = σ.1)))))) ∧ (x2 = 0 → (((nI 0) = 0 ∨ (nI 0) = 1) ∧ (Q (some (vi (nI 0))) s1 ∧ s1.1 = σ.1)))))))
    refine br_lt (by omega) (by omega) (fun h => by omega) (fun h => ?_)
    refine cal_i (e_takeElement d hp ha) rfl ?_
    unfold pEls at hq
    have l1 := pElem_le (t := t) ha
    rcases h1 : pElem t n a with ⟨b, a1⟩
    rw [h1] at hq l1
    cases b with
    | false => exact b_f' ⟨Or.inl rfl, hq, rfl⟩
    | true =>
      refine b_t' (cal_i (e_take (d + 2) hp (by omega) l1) rfl ?_)
      have l2 := pT_le (t := t) (x := 44) l1
      rcases h2 : pT t n 44 a1 with ⟨b, a2⟩
      simp only [h2] at hq l2
      cases b with
      | false => exact b_f' ⟨Or.inr rfl, hq, rfl⟩
      | true =>
        refine b_t' ?_
        rw [addN]
        exact ih (i + 1) a2 (by omega) l2 hq
theorem e_takeLine (d : Nat) (hp : PadC σ n t) {a : Nat} (ha : a ≤ n) : EI (d + 4) 35 [vr 5 0] (rh σ n a) (bI (pLine t n a).1) (rh σ n (pLine t n a).2) := by
  refine EI_of mt_35 (Nat.le_of_ble_eq_true rfl) fun Q hq => ?_
  refine wp_ok (cut := [30]) ma_35 rfl 11 _ _ _ _ ?_
  show CalI true (d + 3) 32 [vr 5 0, vi (nI 61)] (rh σ n a) ((rh σ n a).1) (fun x2 s1 => ((x2 = 0 → CalI true (d + 3) 32 [vr 5 0, vi (nI 123)] s1 ((rh σ n a).1) (fun x4 s3 => ((x4 = 0 → Sat true (d + 4) 35 ((rh σ n a).1) Q 30 [some (vr 5 0), some (vi (nI 0))] [] s3) ∧ (¬ x4 = 0 → CalI true (d + 3) 37 [vr 5 0] s3 ((rh σ n a).1) (fun x6 s5 => ((x6 = 0 ∨ x6 = 1) ∧ (Q (some (vi x6)) s5 ∧ s5.1 = (rh σ n a).1))))))) ∧ (¬ x2 = 0 → CalI true (d + 3) 36 [vr 5 0] s1 ((rh σ n a).1) (fun x8 s7 => ((x8 = 0 ∨ x8 = 1) ∧ (Q (some (vi x8)) s7 ∧ s7.1 = (rh σ n a).1))))))
  unfold pLine at hq
  refine cal_i (e_isNext (d + 3) hp (by omega) ha) rfl ?_
  cases h1 : isN t n 61 a with
  | true =>
    rw [h1, if_pos rfl] at hq
    exact b_t (cal_i (e_takeHeading (d + 1) hp ha) rfl ⟨bI_01 _, hq, rfl⟩)
  | false =>
    rw [h1, if_neg (by decide)] at hq
    refine b_f (cal_i (e_isNext (d + 3) hp (by omega) ha) rfl ?_)
    cases h2 : isN t n 123 a with
    | true =>
      rw [h2, if_pos rfl] at hq
      exact b_t (cal_i (e_takeInclude (d + 1) hp ha) rfl ⟨bI_01 _, hq, rfl⟩)
    | false =>
      rw [h2, if_neg (by decide)] at hq
      exact b_f (s_elsLoop d hp Q (n + 1) 0 a (by omega) ha hq)
theorem e_begin (d : Nat) (len : Int32) (σ : Hp) : EV d 31 [vr 5 0, vr 2 0, vi len] σ (setI (setI (setR σ 5 0 0 (some (2, 0))) 5 0 1 len) 5 0 2 (nI 0)) := by
  refine EV_of mt_31 (Nat.le_of_ble_eq_true rfl) fun Q hq => ?_
  refine wp_ok (cut := []) ma_31 rfl 10 _ _ _ _ ?_
  show (Q none (setI (setI (setR σ 5 0 0 (some (2, 0))) 5 0 1 len) 5 0 2 (nI 0)) ∧ σ.1 = σ.1)
  exact ⟨hq, rfl⟩
theorem s_pageLoop (d : Nat) (hp : PadC σ n t) (Q : Option AV → Hp → Prop) : ∀ (k i a : Nat), i + k = n + 1 → a ≤ n → (∀ a', Q (some (vi (fI (pPg t n k a)))) (rh σ n a')) → Sat true (d + 5) 29 σ.1 Q 8 [some (vr 5 0), some (vr 2 0), some (vi (nI n)), some (vi (nI i))] [] (rh σ n a) := by
  have hn := hp.1
  intro k
  induction k with
  | zero =>
    intro i a hi ha hq
    refine wp_ok (cut := [8]) ma_29 rfl 19 _ _ _ _ ?_
    show (((nI n) < (nI i) → (Q (some (vi (nI a))) (rh σ n a) ∧ (rh σ n a).1 = σ.1)) ∧ (¬ (nI n) < (nI i) → CalI true (d + 4) 35 [vr 5 0] (rh σ n a) σ.1 (fun x2 s1 => ((¬ x2 = 0 → CalI true (d + 4) 33 [vr 5 0, vi (nI 59)] s1 σ.1 (fun x4 s3 => ((¬ x4 = 0 → Sat true (d + 5) 29 σ.1 Q 8 [some (vr 5 0), some (vr 2 0), some (vi (nI n)), some (vi ((nI i) + nI 1))] [] s3) ∧ (x4 = 0 → ((¬ (hI s3 5 0 2) = (hI s3 5 0 1) → (Q (some (vi (hI s3 5 0 2))) s3 ∧ s3.1 = σ.1)) ∧ ((hI s3 5 0 2) = (hI s3 5 0 1) → (Q (some (vi (-6))) s3 ∧ s3.1 = σ.1))))))) ∧ (x2 = 0 → (Q (some (vi (hI s1 5 0 2))) s1 ∧ s1.1 = σ.1))))))
    exact br_lt (by omega) (by omega) (fun h => ⟨hq a, rfl⟩) (fun h => by omega)
  | succ k ih =>
    intro i a hi ha hq
    refine wp_ok (cut := [8]) ma_29 rfl 19 _ _ _ _ ?_
    show (((nI n) < (nI i) → (Q (some (vi (nI a))) (rh σ n a) ∧ (rh σ n a).1 = σ.1)) ∧ (¬ (nI n) < (nI i) → CalI true (d + 4) 35 [vr 5 0] (rh σ n a) σ.1 (fun x2 s1 => ((¬ x2 = 0 → CalI true (d + 4) 33 [vr 5 0, vi (nI 59)] s1 σ.1 (fun x4 s3 => ((¬ x4 = 0 → Sat true (d + 5) 29 σ.1 Q 8 [some (vr 5 0), some (vr 2 0), some (vi (nI n)), some (vi ((nI i) + nI 1))] [] s3) ∧ (x4 = 0 → ((¬ (hI s3 5 0 2) = (hI s3 5 0 1) → (Q (some (vi (hI s3 5 0 2))) s3 ∧ s3.1 = σ.1)) ∧ ((hI s3 5 0 2) = (hI s3 5 0 1) → (Q (some (vi (-6))) s3 ∧ s3.1 = σ.1))))))) ∧ (x2 = 0 → (Q (some (vi (hI s1 5 0 2))) s1 ∧ s1.1 = σ.1))))))
    refine br_lt (by omega) (by omega) (fun h => by omega) (fun h => ?_)
    refine cal_i (e_takeLine d hp ha) rfl ?_
    unfold pPg at hq
    have l1 := pLine_le (t := t) ha
    rcases h1 : pLine t n a with ⟨b, a1⟩
    rw [h1] at hq l1
    cases b with
    | false => exact b_f' ⟨hq a1, rfl⟩
    | true =>
      refine b_t' (cal_i (e_take (d + 3) hp (by omega) l1) rfl ?_)
      have l2 := pT_le (t := t) (x := 59) l1
      rcases h2 : pT t n 59 a1 with ⟨b, a2⟩
      simp only [h2] at hq l2
      cases b with
      | false =>
        refine b_f' ?_
        show (¬ nI a2 = nI n → (Q (some (vi (nI a2))) (rh σ n a2) ∧ (rh σ n a2).1 = σ.1)) ∧ (nI a2 = nI n → (Q (some (vi (-6))) (rh σ n a2) ∧ (rh σ n a2).1 = σ.1))
        dsimp only at hq
        refine br_ne (by omega) (by omega) (fun g => ?_) (fun g => ?_)
        · rw [if_neg g] at hq
          exact ⟨hq a2, rfl⟩
        · rw [if_pos g] at hq
          exact ⟨hq a2, rfl⟩
      | true =>
        refine b_t' ?_
        rw [addN]
        exact ih (i + 1) a2 (by omega) l2 hq
/-- what a heap is behind a reading -/
def RdH (σ : Hp) (n : Nat) (h : Hp) : Prop := ∃ a, h = rh σ n a
theorem e_pageFault (d : Nat) (hp : PadC σ n t) : Ev true (d + 5) 29 [vr 5 0, vr 2 0, vi (nI n)] σ σ.1 (fun r h => r = some (vi (fI (pageF t n))) ∧ RdH σ n h) := by
  refine Ev_of mt_29 (Nat.le_of_ble_eq_true rfl) (Nat.le_refl _) (Nat.le_refl _) ?_
  generalize hQ : (fun (r : Option AV) (h : Hp) => r = some (vi (fI (pageF t n))) ∧ RdH σ n h) = Q
  refine wp_ok (cut := [8]) ma_29 rfl 6 _ _ _ _ ?_
  show CalV true (d + 4) 31 [vr 5 0, vr 2 0, vi (nI n)] σ σ.1 (fun s1 => Sat true (d + 5) 29 σ.1 Q 8 [some (vr 5 0), some (vr 2 0), some (vi (nI n)), some (vi (nI 0))] [] s1)
  refine cal_v (e_begin (d + 4) (nI n) σ) rfl ?_
  refine s_pageLoop d hp Q (n + 1) 0 0 (by omega) (by omega) (fun a' => ?_)
  rw [← hQ]
  exact ⟨rfl, a', rfl⟩
theorem e_redirectFault (d : Nat) (hp : PadC σ n t) : Ev true (d + 4) 30 [vr 5 0, vr 2 0, vi (nI n)] σ σ.1 (fun r h => r = some (vi (fI (redF t n))) ∧ RdH σ n h) := by
  refine Ev_of mt_30 (Nat.le_of_ble_eq_true rfl) (Nat.le_refl _) (Nat.le_refl _) ?_
  generalize hQ : (fun (r : Option AV) (h : Hp) => r = some (vi (fI (redF t n))) ∧ RdH σ n h) = Q
  have hq : ∀ a', Q (some (vi (fI (redF t n)))) (rh σ n a') := fun a' => by rw [← hQ]; exact ⟨rfl, a', rfl⟩
  have hn := hp.1
  refine wp_ok (cut := []) ma_30 rfl 22 _ _ _ _ ?_
  show CalV true (d + 3) 31 [vr 5 0, vr 2 0, vi (nI n)] σ σ.1 (fun s1 => CalI true (d + 3) 39 [vr 5 0] s1 σ.1 (fun x3 s2 => ((x3 = 0 → (Q (some (vi (hI s2 5 0 2))) s2 ∧ s2.1 = σ.1)) ∧ (¬ x3 = 0 → CalI true (d + 3) 33 [vr 5 0, vi (nI 62)] s2 σ.1 (fun x5 s4 => ((x5 = 0 → (Q (some (vi (hI s4 5 0 2))) s4 ∧ s4.1 = σ.1)) ∧ (¬ x5 = 0 → CalI true (d + 3) 39 [vr 5 0] s4 σ.1 (fun x7 s6 => ((x7 = 0 → (Q (some (vi (hI s6 5 0 2))) s6 ∧ s6.1 = σ.1)) ∧ (¬ x7 = 0 → ((¬ (hI s6 5 0 2) = (hI s6 5 0 1) → (Q (some (vi (hI s6 5 0 2))) s6 ∧ s6.1 = σ.1)) ∧ ((hI s6 5 0 2) = (hI s6 5 0 1) → (Q (some (vi (-6))) s6 ∧ s6.1 = σ.1)))))))))))))
  refine cal_v (e_begin (d + 3) (nI n) σ) rfl ?_
  unfold redF at hq
  refine cal_i (e_takePlace d hp (Nat.zero_le n)) rfl ?_
  have l1 := pPlace_le (t := t) (Nat.zero_le n)
  rcases h1 : pPlace t n 0 with ⟨b, a1⟩
  rw [h1] at hq l1
  cases b with
  | false => exact b_f ⟨hq a1, rfl⟩
  | true =>
    refine b_t (cal_i (e_take (d + 2) hp (by omega) l1) rfl ?_)
    have l2 := pT_le (t := t) (x := 62) l1
    rcases h2 : pT t n 62 a1 with ⟨b, a2⟩
    simp only [h2] at hq l2
    cases b with
    | false => exact b_f ⟨hq a2, rfl⟩
    | true =>
      refine b_t (cal_i (e_takePlace d hp l2) rfl ?_)
      have l3 := pPlace_le (t := t) l2
      rcases h3 : pPlace t n a2 with ⟨b, a3⟩
      simp only [h3] at hq l3
      cases b with
      | false => exact b_f ⟨hq a3, rfl⟩
      | true =>
        refine b_t ?_
        show (¬ nI a3 = nI n → (Q (some (vi (nI a3))) (rh σ n a3) ∧ (rh σ n a3).1 = σ.1)) ∧ (nI a3 = nI n → (Q (some (vi (-6))) (rh σ n a3) ∧ (rh σ n a3).1 = σ.1))
        dsimp only at hq
        refine br_ne (by omega) (by omega) (fun g => ?_) (fun g => ?_)
        · rw [if_neg g] at hq
          exact ⟨hq a3, rfl⟩
        · rw [if_pos g] at hq
          exact ⟨hq a3, rfl⟩
end
