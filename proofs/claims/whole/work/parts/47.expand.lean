/-! the class's Expansion: what it holds; isReplaced -/
def hoF : (Nat → Int32) → Nat → List Hd → Nat → Int32
  | u, _, [] => u
  | u, k, x :: r => hoF (hOf u x.2.2.2 k) (k + 1) r
theorem hoF_sn : ∀ (a : List Hd) (u : Nat → Int32) (k : Nat) (x : Hd), hoF u k (a ++ [x]) = hOf (hoF u k a) x.2.2.2 (k + a.length) := by
  intro a
  induction a with
  | nil => intro u k x; rfl
  | cons y a ih =>
    intro u k x
    show hoF (hOf u y.2.2.2 k) (k + 1) (a ++ [x]) = hOf (hoF (hOf u y.2.2.2 k) (k + 1) a) x.2.2.2 (k + (a.length + 1))
    rw [ih, show k + 1 + a.length = k + (a.length + 1) by omega]
/-- the expansion of the page r, on its way: u is the row headingOf as it was at the beginning -/
def XC (h : Hp) (r : Nat) (u : Nat → Int32) (x : XA) : Prop := hI h 32 r 0 = nI x.1 ∧ hI h 32 r 1 = x.2.1 ∧ HsC h r x.2.2.1 ∧ hI h 32 r 8 = nI x.2.2.2 ∧ hI h 37 r = hoF u 0 x.2.2.1 ∧ x.2.2.1.length ≤ x.1 ∧ x.1 ≤ 100 ∧ x.2.2.2 ≤ 200
/-- the outlines of all pages -/
def OutsC (σ : Hp) (P : Nat → List Line) : Prop := ∀ q, q < 12 → OI σ q (P q)
/-- the set underWay -/
def UwC (h : Hp) (r : Nat) (st : XS) : Prop := ∀ q, q < 12 → bt (hI h 32 r 9) q = onSt q st
theorem e_isReplaced (d : Nat) {σ : Hp} {r q : Nat} {u : Nat → Int32} {x : XA} {P : Nat → List Line} {st : XS} (hr : r < 12) (hq12 : q < 12) (hx : XC σ r u x) (ho : OI σ q (P q)) (hl : (P q).length ≤ 80) (hu : UwC σ r st) : EI (d + 1) 10 [vr 32 r, vr 18 0, vi (nI q)] σ (bI (decide (P q ≠ [] ∧ onSt q st = false ∧ x.2.2.2 < 200))) σ := by
  refine EI_of mt_10 (Nat.le_of_ble_eq_true rfl) fun Q hq => ?_
  obtain ⟨_, _, _, x8, _, _, _, x200⟩ := hx
  have o1 := ho.2.1
  have hb := hu q hq12
  refine wp_ok (cut := []) ma_10 rfl 17 _ _ _ _ ?_
  show (r < 12 ∧ (((nI 200) ≤ (hI σ 32 r 8) → (((nI 0) = 0 ∨ (nI 0) = 1) ∧ (Q (some (vi (nI 0))) σ ∧ σ.1 = σ.1))) ∧ (¬ (nI 200) ≤ (hI σ 32 r 8) → (vp_in (nI q) 12 ∧ ((nI q).toNatClampNeg < 12 ∧ (((hI σ 21 ((nI q).toNatClampNeg) 1) ≤ 0 → (((nI 0) = 0 ∨ (nI 0) = 1) ∧ (Q (some (vi (nI 0))) σ ∧ σ.1 = σ.1))) ∧ (¬ (hI σ 21 ((nI q).toNatClampNeg) 1) ≤ 0 → (r < 12 ∧ CalI true d 97 [vi (hI σ 32 r 9), vi (nI q)] σ σ.1 (fun x2 s1 => ((¬ x2 = 0 → (((nI 0) = 0 ∨ (nI 0) = 1) ∧ (Q (some (vi (nI 0))) s1 ∧ s1.1 = σ.1))) ∧ (x2 = 0 → (((nI 1) = 0 ∨ (nI 1) = 1) ∧ (Q (some (vi (nI 1))) s1 ∧ s1.1 = σ.1)))))))))))))
  rw [x8, ix (by omega), o1]
  refine ⟨hr, br_le (by omega) (by omega) (fun g => ?_) (fun g => ⟨inb (by omega) (by omega), hq12, br_le (b := 0) (by omega) (by omega) (fun g2 => ?_) (fun g2 => ⟨hr, cal_i (e_isIn d σ _ hq12) rfl ?_⟩)⟩)⟩
  · rw [decide_eq_false (by omega)] at hq
    exact ⟨Or.inl rfl, hq, rfl⟩
  · rw [decide_eq_false (fun w => w.1 (List.eq_nil_of_length_eq_zero (by omega)))] at hq
    exact ⟨Or.inl rfl, hq, rfl⟩
  · rw [hb]
    cases e : onSt q st with
    | true =>
      rw [decide_eq_false (fun w => by rw [e] at w; cases w.2.1)] at hq
      exact b_t' ⟨Or.inl rfl, hq, rfl⟩
    | false =>
      rw [decide_eq_true ⟨fun w => (by rw [w] at g2; cases g2), e, g⟩] at hq
      exact b_f' ⟨Or.inr rfl, hq, rfl⟩
