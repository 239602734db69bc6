/-! the class's Reader, over the pad -/
def rh (σ : Hp) (n a : Nat) : Hp := setI (setI (setR σ 5 0 0 (some (2, 0))) 5 0 1 (nI n)) 5 0 2 (nI a)
theorem rh_at (σ : Hp) (n a b : Nat) : setI (rh σ n a) 5 0 2 (nI b) = rh σ n b := setI_setI _ _ _ _ _ _
/-- the pad holds the text t of n signs -/
def PadC (σ : Hp) (n : Nat) (t : Nat → Nat) : Prop := n ≤ 160 ∧ ∀ k, k < n → hI σ 2 0 k = nI (t k) ∧ t k < 128
def pTB (t : Nat → Nat) (n x y a : Nat) : Bool × Nat := if a < n ∧ x ≤ t a ∧ t a ≤ y then (true, a + 1) else (false, a)
def pT (t : Nat → Nat) (n c a : Nat) : Bool × Nat := pTB t n c c a
def isN (t : Nat → Nat) (n c a : Nat) : Bool := decide (a < n ∧ t a = c)
section
variable {σ : Hp} {n : Nat} {t : Nat → Nat}
theorem e_takeBetween (d : Nat) (hp : PadC σ n t) {x y a : Nat} (hx : x < 128) (hy : y < 128) (ha : a ≤ n) : EI d 34 [vr 5 0, vi (nI x), vi (nI y)] (rh σ n a) (bI (pTB t n x y a).1) (rh σ n (pTB t n x y a).2) := by
  refine EI_of mt_34 (Nat.le_of_ble_eq_true rfl) fun Q hq => ?_
  have hn := hp.1
  refine wp_ok (cut := []) ma_34 rfl 27 _ _ _ _ ?_
  show (((nI n) ≤ (nI a) → (((nI 0) = 0 ∨ (nI 0) = 1) ∧ (Q (some (vi (nI 0))) (rh σ n a) ∧ (rh σ n a).1 = (rh σ n a).1))) ∧ (¬ (nI n) ≤ (nI a) → (vp_in (nI a) 160 ∧ (((hI σ 2 0 ((nI a).toNatClampNeg)) < (nI x) → (((nI 0) = 0 ∨ (nI 0) = 1) ∧ (Q (some (vi (nI 0))) (rh σ n a) ∧ (rh σ n a).1 = (rh σ n a).1))) ∧ (¬ (hI σ 2 0 ((nI a).toNatClampNeg)) < (nI x) → (vp_in (nI a) 160 ∧ (((hI σ 2 0 ((nI a).toNatClampNeg)) ≤ (nI y) → (((nI 1) = 0 ∨ (nI 1) = 1) ∧ (Q (some (vi (nI 1))) (setI (rh σ n a) 5 0 2 ((nI a) + (nI 1))) ∧ (rh σ n a).1 = (rh σ n a).1))) ∧ (¬ (hI σ 2 0 ((nI a).toNatClampNeg)) ≤ (nI y) → (((nI 0) = 0 ∨ (nI 0) = 1) ∧ (Q (some (vi (nI 0))) (rh σ n a) ∧ (rh σ n a).1 = (rh σ n a).1))))))))))
  refine br_le (by omega) (by omega) (fun h => ?_) (fun h => ?_)
  · have e : pTB t n x y a = (false, a) := if_neg (by omega)
    rw [e] at hq
    exact ⟨Or.inl rfl, hq, rfl⟩
  · obtain ⟨h1, h2⟩ := hp.2 a h
    rw [ix (by omega), h1]
    refine ⟨inb (by omega) (by omega), br_lt (by omega) (by omega) (fun g => ?_) (fun g => ⟨inb (by omega) (by omega), br_le (by omega) (by omega) (fun k => ?_) (fun k => ?_)⟩)⟩
    · have e : pTB t n x y a = (false, a) := if_neg (by omega)
      rw [e] at hq
      exact ⟨Or.inl rfl, hq, rfl⟩
    · have e : pTB t n x y a = (true, a + 1) := if_pos (by omega)
      rw [e] at hq
      rw [addN, rh_at]
      exact ⟨Or.inr rfl, hq, rfl⟩
    · have e : pTB t n x y a = (false, a) := if_neg (by omega)
      rw [e] at hq
      exact ⟨Or.inl rfl, hq, rfl⟩
theorem e_isNext (d : Nat) (hp : PadC σ n t) {x a : Nat} (hx : x < 128) (ha : a ≤ n) : EI d 32 [vr 5 0, vi (nI x)] (rh σ n a) (bI (isN t n x a)) (rh σ n a) := by
  refine EI_of mt_32 (Nat.le_of_ble_eq_true rfl) fun Q hq => ?_
  have hn := hp.1
  refine wp_ok (cut := []) ma_32 rfl 15 _ _ _ _ ?_
  show (((nI n) ≤ (nI a) → (((nI 0) = 0 ∨ (nI 0) = 1) ∧ (Q (some (vi (nI 0))) (rh σ n a) ∧ (rh σ n a).1 = (rh σ n a).1))) ∧ (¬ (nI n) ≤ (nI a) → (vp_in (nI a) 160 ∧ ((¬ (hI σ 2 0 ((nI a).toNatClampNeg)) = (nI x) → (((nI 0) = 0 ∨ (nI 0) = 1) ∧ (Q (some (vi (nI 0))) (rh σ n a) ∧ (rh σ n a).1 = (rh σ n a).1))) ∧ ((hI σ 2 0 ((nI a).toNatClampNeg)) = (nI x) → (((nI 1) = 0 ∨ (nI 1) = 1) ∧ (Q (some (vi (nI 1))) (rh σ n a) ∧ (rh σ n a).1 = (rh σ n a).1)))))))
  refine br_le (by omega) (by omega) (fun h => ?_) (fun h => ?_)
  · have e : isN t n x a = false := decide_eq_false (by omega)
    rw [e] at hq
    exact ⟨Or.inl rfl, hq, rfl⟩
  · obtain ⟨h1, h2⟩ := hp.2 a h
    rw [ix (by omega), h1]
    refine ⟨inb (by omega) (by omega), br_ne (by omega) (by omega) (fun g => ?_) (fun g => ?_)⟩
    · have e : isN t n x a = false := decide_eq_false (by omega)
      rw [e] at hq
      exact ⟨Or.inl rfl, hq, rfl⟩
    · have e : isN t n x a = true := decide_eq_true (by omega)
      rw [e] at hq
      exact ⟨Or.inr rfl, hq, rfl⟩
theorem e_take (d : Nat) (hp : PadC σ n t) {x a : Nat} (hx : x < 128) (ha : a ≤ n) : EI (d + 1) 33 [vr 5 0, vi (nI x)] (rh σ n a) (bI (pT t n x a).1) (rh σ n (pT t n x a).2) := by
  refine EI_of mt_33 (Nat.le_of_ble_eq_true rfl) fun Q hq => ?_
  refine wp_ok (cut := []) ma_33 rfl 5 _ _ _ _ ?_
  show CalI true d 34 [vr 5 0, vi (nI x), vi (nI x)] (rh σ n a) ((rh σ n a).1) (fun x2 s1 => ((x2 = 0 ∨ x2 = 1) ∧ (Q (some (vi x2)) s1 ∧ s1.1 = (rh σ n a).1)))
  exact cal_i (e_takeBetween d hp hx hx ha) rfl ⟨bI_01 _, hq, rfl⟩
end
