/-! the class's Reader, over the pad -/
def rh (σ : Hp) (n a : Nat) : Hp := setI (setI (setR σ 5 0 0 (some (2, 0))) 5 0 1 (nI n)) 5 0 2 (nI a)
theorem rh_at (σ : Hp) (n a b : Nat) : setI (rh σ n a) 5 0 2 (nI b) = rh σ n b := setI_setI _ _ _ _ _ _
/-- the pad holds the text t of n signs -/
def PadC (σ : Hp) (n : Nat) (t : Nat → Nat) : Prop := n ≤ 160 ∧ ∀ k, k < n → hI σ 2 0 k = nI (t k) ∧ t k < 128
def pTB (t : Nat → Nat) (n x y a : Nat) : Bool × Nat := if a < n ∧ x ≤ t a ∧ t a ≤ y then (true, a + 1) else (false, a)
def pT (t : Nat → Nat) (n c a : Nat) : Bool × Nat := pTB t n c c a
def isN (t : Nat → Nat) (n c a : Nat) : Bool := decide (a < n ∧ t a = c)
section
variable {σ : Hp} {n : Nat} {t : Nat → Nat}
theorem e_takeBetween (d : Nat) (hp : PadC σ n t) {x y a : Nat} (hx : x < 128) (hy : y < 128) (ha : a ≤ n) : EI d 34 [vr 5 0, vi (nI x), vi (nI y)] (rh σ n a) (bI (pTB t n x y a).1) (rh σ n (pTB t n x y a).2) := by
  refine EI_of mt_34 (Nat.le_of_ble_eq_true rfl) fun Q hq => ?_
  have hn := hp.1
  refine wp_ok (cut := []) ma_34 rfl 27 _ _ _ _ ?_
  show (((nI n) ≤ (nI a) → (((nI 0) = 0 ∨ (nI 0) = 1) ∧ (Q (some (vi (nI 0))) (rh σ n a) ∧ (rh σ n a).1 = (rh σ n a).1))) ∧ (¬ (nI n) ≤ (nI a) → (vp_in (nI a) 160 ∧ (((hI σ 2 0 ((nI a).toNatClampNeg)) < (nI x) → (((nI 0) = 0 ∨ (nI 0) = 1) ∧ (Q (some (vi (nI 0))) (rh σ n a) ∧ (rh σ n a).1 = (rh σ n a).1))) ∧ (¬ (hI σ 2 0 ((nI a).toNatClampNeg)) < (nI x) → (vp_in (nI a) 160 ∧ (((hI σ 2 0 ((nI a).toNatClampNeg)) ≤ (nI y) → (((nI 1) = 0 ∨ (nI 1) = 1) ∧ (Q (some (vi (nI 1))) (setI (rh σ n a) 5 0 2 ((nI a) + (nI 1))) ∧ (rh σ n a).1 = (rh σ n a).1))) ∧ (¬ (hI σ 2 0 ((nI a).toNatClampNeg)) ≤ (nI y) → (((nI 0) = 0 ∨ (nI 0) = 1) ∧ (Q (some (vi (nI 0))) (rh σ n a) ∧ (rh σ n a).1 = (rh σ n a).1))))))))))
  refine br_le (by omega) (by omega) (fun h => ?_) (fun h => ?_)
  · have e : pTB t n x y a = (false, a) := if_neg (by omega)
    rw [e] at hq
    exact ⟨Or.inl rfl, hq, rfl⟩
  · obtain ⟨h1, h2⟩ := hp.2 a h
    rw [ix (by omega), h1]
    refine ⟨inb (by omega) (by omega), br_lt (by omega) (by omega) (fun g => ?_) (fun g => ⟨inb (by omega) (by omega), br_le (by omega) (by omega) (fun k => ?_) (fun k => ?_)⟩)⟩
    · have e : pTB t n x y a = (false, a) := if_neg (by omega)
      rw [e] at hq
      exact ⟨Or.inl rfl, hq, rfl⟩
    · have e : pTB t n x y a = (true, a + 1) := if_pos (by omega)
      rw [e] at hq
      rw [addN, rh_at]
      exact ⟨Or.inr rfl, hq, rfl⟩
    · have e : pTB t n x y a = (false, a) := if_neg (by omega)
      rw [e] at hq
      exact ⟨Or.inl rfl, hq, rfl⟩
theorem e_isNext (d : Nat) (hp : PadC σ n t) {x a : Nat} (hx : x < 128) (ha : a ≤ n) : EI d 32 [vr 5 0, vi (nI x)] (rh σ n a) (bI (isN t n x a)) (rh σ n a) := by
  refine EI_of mt_32 (Nat.le_of_ble_eq_true rfl) fun Q hq => ?_
  have hn := hp.1
  refine wp_ok (cut := []) ma_32 rfl 15 _ _ _ _ ?_
  show (((nI n) ≤ (nI a) → (((nI 0) = 0 ∨ (nI 0) = 1) ∧ (Q (some (vi (nI 0))) (rh σ n a) ∧ (rh σ n a).1 = (rh σ n a).1))) ∧ (¬ (nI n) ≤ (nI a) → (vp_in (nI a) 160 ∧ ((¬ (hI σ 2 0 ((nI a).toNatClampNeg)) = (nI x) → (((nI 0) = 0 ∨ (nI 0) = 1) ∧ (Q (some (vi (nI 0))) (rh σ n a) ∧ (rh σ n a).1 = (rh σ n a).1))) ∧ ((hI σ 2 0 ((nI a).toNatClampNeg)) = (nI x) → (((nI 1) = 0 ∨ (nI 1) = 1) ∧ (Q (some (vi (nI 1))) (rh σ n a) ∧ (rh σ n a).1 = (rh σ n a).1)))))))
  refine br_le (by omega) (by omega) (fun h => ?_) (fun h => ?_)
  · have e : isN t n x a = false := decide_eq_false (by omega)
    rw [e] at hq
    exact ⟨Or.inl rfl, hq, rfl⟩
  · obtain ⟨h1, h2⟩ := hp.2 a h
    rw [ix (by omega), h1]
    refine ⟨inb (by omega) (by omega), br_ne (by omega) (by omega) (fun g => ?_) (fun g => ?_)⟩
    · have e : isN t n x a = false := decide_eq_false (by omega)
      rw [e] at hq
      exact ⟨Or.inl rfl, hq, rfl⟩
    · have e : isN t n x a = true := decide_eq_true (by omega)
      rw [e] at hq
      exact ⟨Or.inr rfl, hq, rfl⟩
theorem e_take (d : Nat) (hp : PadC σ n t) {x a : Nat} (hx : x < 128) (ha : a ≤ n) : EI (d + 1) 33 [vr 5 0, vi (nI x)] (rh σ n a) (bI (pT t n x a).1) (rh σ n (pT t n x a).2) := by
  refine EI_of mt_33 (Nat.le_of_ble_eq_true rfl) fun Q hq => ?_
  refine wp_ok (cut := []) ma_33 rfl 5 _ _ _ _ ?_
  show CalI true d 34 [vr 5 0, vi (nI x), vi (nI x)] (rh σ n a) ((rh σ n a).1) (fun x2 s1 => ((x2 = 0 ∨ x2 = 1) ∧ (Q (some (vi x2)) s1 ∧ s1.1 = (rh σ n a).1)))
  exact cal_i (e_takeBetween d hp hx hx ha) rfl ⟨bI_01 _, hq, rfl⟩
theorem pTB_le {x y a : Nat} (ha : a ≤ n) : (pTB t n x y a).2 ≤ n := by
  unfold pTB
  split
  · show a + 1 ≤ n; omega
  · exact ha
theorem pT_le {x a : Nat} (ha : a ≤ n) : (pT t n x a).2 ≤ n := pTB_le ha
/-- up to k letters or digits -/
def pNl (t : Nat → Nat) (n : Nat) : Nat → Nat → Nat
  | 0, a => a
  | k + 1, a => if (pTB t n 97 122 a).1 then pNl t n k (pTB t n 97 122 a).2 else if (pTB t n 48 57 a).1 then pNl t n k (pTB t n 48 57 a).2 else a
def pName (t : Nat → Nat) (n a : Nat) : Bool × Nat := if (pTB t n 97 122 a).1 then (true, pNl t n 7 (pTB t n 97 122 a).2) else (false, a)
theorem pTB_f {x y a : Nat} (h : (pTB t n x y a).1 = false) : (pTB t n x y a).2 = a := by
  unfold pTB at h ⊢
  split at h
  · cases h
  · rename_i q; rw [if_neg q]
theorem pNl_le : ∀ (k a : Nat), a ≤ n → pNl t n k a ≤ n := by
  intro k
  induction k with
  | zero => intro a h; exact h
  | succ k ih =>
    intro a h
    unfold pNl
    split
    · exact ih _ (pTB_le h)
    · split
      · exact ih _ (pTB_le h)
      · exact h
theorem pName_le {a : Nat} (ha : a ≤ n) : (pName t n a).2 ≤ n := by
  unfold pName
  split
  · exact pNl_le _ _ (pTB_le ha)
  · exact ha
theorem s_nameLoop (d : Nat) (hp : PadC σ n t) (Q : Option AV → Hp → Prop) : ∀ (k i a : Nat), i + k = 8 → a ≤ n → Q (some (vi (bI true))) (rh σ n (pNl t n k a)) → Sat true (d + 1) 41 σ.1 Q 15 [some (vr 5 0), some (vi (nI i))] [] (rh σ n a) := by
  intro k
  induction k with
  | zero =>
    intro i a hi ha hq
    refine wp_ok (cut := [15]) ma_41 rfl 15 _ _ _ _ ?_
    show (((nI 8) ≤ (nI i) → (((nI 1) = 0 ∨ (nI 1) = 1) ∧ (Q (some (vi (nI 1))) (rh σ n a) ∧ (rh σ n a).1 = σ.1))) ∧ (¬ (nI 8) ≤ (nI i) → CalI true d 34 [vr 5 0, vi (nI 97), vi (nI 122)] (rh σ n a) σ.1 (fun x2 s1 => ((¬ x2 = 0 → Sat true (d + 1) 41 σ.1 Q 15 [some (vr 5 0), some (vi ((nI i) + nI 1))] [] s1) ∧ (x2 = 0 → CalI true d 34 [vr 5 0, vi (nI 48), vi (nI 57)] s1 σ.1 (fun x4 s3 => ((x4 = 0 → (((nI 1) = 0 ∨ (nI 1) = 1) ∧ (Q (some (vi (nI 1))) s3 ∧ s3.1 = σ.1))) ∧ (¬ x4 = 0 → Sat true (d + 1) 41 σ.1 Q 15 [some (vr 5 0), some (vi ((nI i) + nI 1))] [] s3))))))))
    exact br_le (by omega) (by omega) (fun h => ⟨Or.inr rfl, hq, rfl⟩) (fun h => by omega)
  | succ k ih =>
    intro i a hi ha hq
    refine wp_ok (cut := [15]) ma_41 rfl 15 _ _ _ _ ?_
    show (((nI 8) ≤ (nI i) → (((nI 1) = 0 ∨ (nI 1) = 1) ∧ (Q (some (vi (nI 1))) (rh σ n a) ∧ (rh σ n a).1 = σ.1))) ∧ (¬ (nI 8) ≤ (nI i) → CalI true d 34 [vr 5 0, vi (nI 97), vi (nI 122)] (rh σ n a) σ.1 (fun x2 s1 => ((¬ x2 = 0 → Sat true (d + 1) 41 σ.1 Q 15 [some (vr 5 0), some (vi ((nI i) + nI 1))] [] s1) ∧ (x2 = 0 → CalI true d 34 [vr 5 0, vi (nI 48), vi (nI 57)] s1 σ.1 (fun x4 s3 => ((x4 = 0 → (((nI 1) = 0 ∨ (nI 1) = 1) ∧ (Q (some (vi (nI 1))) s3 ∧ s3.1 = σ.1))) ∧ (¬ x4 = 0 → Sat true (d + 1) 41 σ.1 Q 15 [some (vr 5 0), some (vi ((nI i) + nI 1))] [] s3))))))))
    refine br_le (by omega) (by omega) (fun h => by omega) (fun h => ?_)
    refine cal_i (e_takeBetween d hp (by omega) (by omega) ha) rfl ?_
    unfold pNl at hq
    cases h1 : (pTB t n 97 122 a).1 with
    | true =>
      rw [h1, if_pos rfl] at hq
      refine b_t' ?_
      rw [addN]
      exact ih (i + 1) _ (by omega) (pTB_le ha) hq
    | false =>
      rw [h1, if_neg (by decide)] at hq
      refine b_f' ?_
      rw [pTB_f h1]
      refine cal_i (e_takeBetween d hp (by omega) (by omega) ha) rfl ?_
      cases h2 : (pTB t n 48 57 a).1 with
      | true =>
        rw [h2, if_pos rfl] at hq
        refine b_t ?_
        rw [addN]
        exact ih (i + 1) _ (by omega) (pTB_le ha) hq
      | false =>
        rw [h2, if_neg (by decide)] at hq
        refine b_f ?_
        rw [pTB_f h2]
        exact ⟨Or.inr rfl, hq, rfl⟩
theorem e_takeName (d : Nat) (hp : PadC σ n t) {a : Nat} (ha : a ≤ n) : EI (d + 1) 41 [vr 5 0] (rh σ n a) (bI (pName t n a).1) (rh σ n (pName t n a).2) := by
  refine EI_of mt_41 (Nat.le_of_ble_eq_true rfl) fun Q hq => ?_
  refine wp_ok (cut := [15]) ma_41 rfl 7 _ _ _ _ ?_
  show CalI true d 34 [vr 5 0, vi (nI 97), vi (nI 122)] (rh σ n a) ((rh σ n a).1) (fun x2 s1 => ((¬ x2 = 0 → Sat true (d + 1) 41 ((rh σ n a).1) Q 15 [some (vr 5 0), some (vi (nI 1))] [] s1) ∧ (x2 = 0 → (((nI 0) = 0 ∨ (nI 0) = 1) ∧ (Q (some (vi (nI 0))) s1 ∧ s1.1 = (rh σ n a).1)))))
  refine cal_i (e_takeBetween d hp (by omega) (by omega) ha) rfl ?_
  unfold pName at hq
  cases h1 : (pTB t n 97 122 a).1 with
  | true =>
    rw [h1, if_pos rfl] at hq
    exact b_t' (s_nameLoop d hp Q 7 1 _ (by omega) (pTB_le ha) hq)
  | false =>
    rw [h1, if_neg (by decide)] at hq
    refine b_f' ?_
    rw [pTB_f h1]
    exact ⟨Or.inl rfl, hq, rfl⟩
def pAnchor (t : Nat → Nat) (n a : Nat) : Bool × Nat :=
  match pT t n 35 a with
  | (false, a1) => (false, a1)
  | (true, a1) => match pName t n a1 with
    | (false, a2) => (false, a2)
    | (true, a2) => match pT t n 45 a2 with
      | (false, a3) => (true, a3)
      | (true, a3) => match pTB t n 49 57 a3 with
        | (false, a4) => (false, a4)
        | (true, a4) => (true, (pTB t n 48 57 a4).2)
theorem e_takeAnchor (d : Nat) (hp : PadC σ n t) {a : Nat} (ha : a ≤ n) : EI (d + 2) 40 [vr 5 0] (rh σ n a) (bI (pAnchor t n a).1) (rh σ n (pAnchor t n a).2) := by
  refine EI_of mt_40 (Nat.le_of_ble_eq_true rfl) fun Q hq => ?_
  refine wp_ok (cut := []) ma_40 rfl 23 _ _ _ _ ?_
  show CalI true (d + 1) 33 [vr 5 0, vi (nI 35)] (rh σ n a) ((rh σ n a).1) (fun x2 s1 => ((x2 = 0 → (((nI 0) = 0 ∨ (nI 0) = 1) ∧ (Q (some (vi (nI 0))) s1 ∧ s1.1 = (rh σ n a).1))) ∧ (¬ x2 = 0 → CalI true (d + 1) 41 [vr 5 0] s1 ((rh σ n a).1) (fun x4 s3 => ((¬ x4 = 0 → CalI true (d + 1) 33 [vr 5 0, vi (nI 45)] s3 ((rh σ n a).1) (fun x6 s5 => ((¬ x6 = 0 → CalI true (d + 1) 34 [vr 5 0, vi (nI 49), vi (nI 57)] s5 ((rh σ n a).1) (fun x8 s7 => ((¬ x8 = 0 → CalI true (d + 1) 34 [vr 5 0, vi (nI 48), vi (nI 57)] s7 ((rh σ n a).1) (fun x10 s9 => (((nI 1) = 0 ∨ (nI 1) = 1) ∧ (Q (some (vi (nI 1))) s9 ∧ s9.1 = (rh σ n a).1)))) ∧ (x8 = 0 → (((nI 0) = 0 ∨ (nI 0) = 1) ∧ (Q (some (vi (nI 0))) s7 ∧ s7.1 = (rh σ n a).1)))))) ∧ (x6 = 0 → (((nI 1) = 0 ∨ (nI 1) = 1) ∧ (Q (some (vi (nI 1))) s5 ∧ s5.1 = (rh σ n a).1)))))) ∧ (x4 = 0 → (((nI 0) = 0 ∨ (nI 0) = 1) ∧ (Q (some (vi (nI 0))) s3 ∧ s3.1 = (rh σ n a).1))))))))
  unfold pAnchor at hq
  refine cal_i (e_take d hp (by omega) ha) rfl ?_
  have l1 := pT_le (t := t) (x := 35) ha
  rcases h1 : pT t n 35 a with ⟨b, a1⟩
  rw [h1] at hq l1
  cases b with
  | false => exact b_f ⟨Or.inl rfl, hq, rfl⟩
  | true =>
    refine b_t (cal_i (e_takeName d hp l1) rfl ?_)
    have l2 := pName_le (t := t) l1
    rcases h2 : pName t n a1 with ⟨b, a2⟩
    simp only [h2] at hq l2
    cases b with
    | false => exact b_f' ⟨Or.inl rfl, hq, rfl⟩
    | true =>
      refine b_t' (cal_i (e_take d hp (by omega) l2) rfl ?_)
      have l3 := pT_le (t := t) (x := 45) l2
      rcases h3 : pT t n 45 a2 with ⟨b, a3⟩
      simp only [h3] at hq l3
      cases b with
      | false => exact b_f' ⟨Or.inr rfl, hq, rfl⟩
      | true =>
        refine b_t' (cal_i (e_takeBetween (d + 1) hp (by omega) (by omega) l3) rfl ?_)
        have l4 := pTB_le (t := t) (x := 49) (y := 57) l3
        rcases h4 : pTB t n 49 57 a3 with ⟨b, a4⟩
        simp only [h4] at hq l4
        cases b with
        | false => exact b_f' ⟨Or.inl rfl, hq, rfl⟩
        | true => exact b_t' (cal_i (e_takeBetween (d + 1) hp (by omega) (by omega) l4) rfl ⟨Or.inr rfl, hq, rfl⟩)
end
