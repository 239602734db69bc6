/-! the model's reader: anchors, lines, pages, redirects -/
def mAnchor (t : Nat → Nat) (n a : Nat) : Bool × Nat :=
  match mName t n a with
  | (false, a1) => (false, a1)
  | (true, a1) => match pT t n 45 a1 with
    | (false, a2) => (true, a2)
    | (true, a2) => match pTB t n 49 57 a2 with
      | (false, a3) => (false, a3)
      | (true, a3) => (true, (pTB t n 48 57 a3).2)
def mPlace (t : Nat → Nat) (n a : Nat) : Bool × Nat :=
  match pTB t n 65 76 a with
  | (false, a1) => (false, a1)
  | (true, a1) => match pT t n 35 a1 with
    | (false, a2) => (true, a2)
    | (true, a2) => mAnchor t n a2
/-- the anchor's signs in a place that begins at a -/
def plTx (t : Nat → Nat) (n a : Nat) : List Nat := if (pTB t n 65 76 a).1 && (pT t n 35 (a + 1)).1 then sg t (a + 2) ((mPlace t n a).2 - (a + 2)) else []
def mEq (t : Nat → Nat) (n : Nat) : Nat → Nat → Nat
  | 0, a => a
  | k + 1, a => if (pT t n 61 a).1 then mEq t n k (a + 1) else a
def mHead (t : Nat → Nat) (n a : Nat) : Bool × Nat := mName t n (mEq t n 3 a)
def mTgt (t : Nat → Nat) (n a : Nat) : Bool × Nat :=
  match pT t n 35 a with
  | (true, a2) => mAnchor t n a2
  | (false, a2) => mPlace t n a2
def mElem (t : Nat → Nat) (n a : Nat) : Bool × Nat :=
  match pT t n 91 a with
  | (false, a1) => mName t n a1
  | (true, a1) => match mTgt t n a1 with
    | (false, a3) => (false, a3)
    | (true, a3) => pT t n 93 a3
section
variable {σ : Hp} {n : Nat} {t : Nat → Nat}
theorem chr_big (hp : PadM σ n t) (a : Nat) : chr t n a < 2147483648 := Nat.lt_trans (chr_lt hp a) (by omega)
theorem sg_snoc {a b : Nat} (h : a ≤ b) : sg t a (b - a) ++ [t b] = sg t a (b + 1 - a) := by
  have key : ∀ (m a : Nat), sg t a m ++ [t (a + m)] = sg t a (m + 1) := by
    intro m
    induction m with
    | zero => intro a; rfl
    | succ m ih =>
      intro a
      show t a :: (sg t (a + 1) m ++ [t (a + (m + 1))]) = t a :: sg t (a + 1) (m + 1)
      rw [show a + (m + 1) = a + 1 + m by omega, ih]
  have := key (b - a) a
  rw [show a + (b - a) = b by omega] at this
  rw [this, show b - a + 1 = b + 1 - a by omega]
theorem pT_t {x a : Nat} (h : (pT t n x a).1 = true) : (pT t n x a).2 = a + 1 ∧ a < n := pTB_t h
theorem pT_f {x a : Nat} (h : (pT t n x a).1 = false) : (pT t n x a).2 = a := pTB_f h
theorem pTB_tt {x y a a1 : Nat} (h : pTB t n x y a = (true, a1)) : a1 = a + 1 ∧ a < n := by
  have := pTB_t (t := t) (n := n) (x := x) (y := y) (a := a) (by rw [h])
  rw [h] at this
  exact this
theorem pTB_ff {x y a a1 : Nat} (h : pTB t n x y a = (false, a1)) : a1 = a := by
  have := pTB_f (t := t) (n := n) (x := x) (y := y) (a := a) (by rw [h])
  rw [h] at this
  exact this
theorem mAnchor_b {a : Nat} (ha : a ≤ n) : a ≤ (mAnchor t n a).2 ∧ (mAnchor t n a).2 ≤ n ∧ (mAnchor t n a).2 ≤ a + 11 := by
  unfold mAnchor
  have l1 := mName_b (t := t) ha
  split
  · rename_i a1 h1; rw [h1] at l1; have l1 : a ≤ a1 ∧ a1 ≤ n ∧ a1 ≤ a + 8 := l1; show a ≤ a1 ∧ a1 ≤ n ∧ a1 ≤ a + 11; omega
  · rename_i a1 h1
    rw [h1] at l1
    have l1 : a ≤ a1 ∧ a1 ≤ n ∧ a1 ≤ a + 8 := l1
    split
    · rename_i a2 h2
      have := pTB_ff h2
      show a ≤ a2 ∧ a2 ≤ n ∧ a2 ≤ a + 11
      omega
    · rename_i a2 h2
      have := pTB_tt h2
      split
      · rename_i a3 h3
        have := pTB_ff h3
        show a ≤ a3 ∧ a3 ≤ n ∧ a3 ≤ a + 11
        omega
      · rename_i a3 h3
        have := pTB_tt h3
        show a ≤ (pTB t n 48 57 a3).2 ∧ (pTB t n 48 57 a3).2 ≤ n ∧ (pTB t n 48 57 a3).2 ≤ a + 11
        cases h4 : (pTB t n 48 57 a3).1 with
        | true => have := pTB_t h4; omega
        | false => rw [pTB_f h4]; omega
theorem m_readAnchor (d : Nat) (hp : PadM σ n t) {a : Nat} (ha : a ≤ n) (g : Nat → Int32) : ∃ g', RdM g' (sg t a ((mAnchor t n a).2 - a)) ∧ EI (d + 3) 121 [vr 233 0] (mr σ a g) (bI (mAnchor t n a).1) (mr σ (mAnchor t n a).2 g') := by
  obtain ⟨g1, hg1, e1⟩ := m_readName d hp ha g
  have l1 := mName_b (t := t) ha
  rcases h1 : mName t n a with ⟨b, a1⟩
  rw [h1] at hg1 e1 l1
  have l1 : a ≤ a1 ∧ a1 ≤ n ∧ a1 ≤ a + 8 := l1
  have hc1 := chr_lt hp a1
  cases b with
  | false =>
    have em : mAnchor t n a = (false, a1) := by unfold mAnchor; rw [h1]
    rw [em]
    refine ⟨g1, hg1, EI_of mt_121 (Nat.le_of_ble_eq_true rfl) fun Q hq => ?_⟩
    refine wp_ok (cut := []) ma_121 rfl 24 _ _ _ _ ?_
    show CalI true (d + 2) 120 [vr 233 0] (mr σ a g) ((mr σ a g).1) (fun x2 s1 => ((¬ x2 = 0 → CalI true (d + 2) 115 [vr 233 0] s1 ((mr σ a g).1) (fun x4 s3 => ((x4 = (nI 45) → CalV true (d + 2) 119 [vr 233 0] s3 ((mr σ a g).1) (fun s5 => CalI true (d + 2) 115 [vr 233 0] s5 ((mr σ a g).1) (fun x7 s6 => CalI true (d + 2) 108 [vi x7, vi (nI 49), vi (nI 57)] s6 ((mr σ a g).1) (fun x9 s8 => ((¬ x9 = 0 → CalV true (d + 2) 119 [vr 233 0] s8 ((mr σ a g).1) (fun s10 => CalI true (d + 2) 118 [vr 233 0] s10 ((mr σ a g).1) (fun x12 s11 => ((x12 = 0 → (((nI 1) = 0 ∨ (nI 1) = 1) ∧ (Q (some (vi (nI 1))) s11 ∧ s11.1 = (mr σ a g).1))) ∧ (¬ x12 = 0 → CalV true (d + 2) 119 [vr 233 0] s11 ((mr σ a g).1) (fun s13 => (((nI 1) = 0 ∨ (nI 1) = 1) ∧ (Q (some (vi (nI 1))) s13 ∧ s13.1 = (mr σ a g).1)))))))) ∧ (x9 = 0 → (((nI 0) = 0 ∨ (nI 0) = 1) ∧ (Q (some (vi (nI 0))) s8 ∧ s8.1 = (mr σ a g).1)))))))) ∧ (¬ x4 = (nI 45) → (((nI 1) = 0 ∨ (nI 1) = 1) ∧ (Q (some (vi (nI 1))) s3 ∧ s3.1 = (mr σ a g).1)))))) ∧ (x2 = 0 → (((nI 0) = 0 ∨ (nI 0) = 1) ∧ (Q (some (vi (nI 0))) s1 ∧ s1.1 = (mr σ a g).1)))))
    exact cal_i e1 rfl (b_f' ⟨Or.inl rfl, hq, rfl⟩)
  | true =>
    rcases h2 : pT t n 45 a1 with ⟨b, a2⟩
    cases b with
    | false =>
      have e2 := pTB_ff h2
      subst e2
      have em : mAnchor t n a = (true, a2) := by unfold mAnchor; rw [h1]; dsimp only; rw [h2]
      rw [em]
      refine ⟨g1, hg1, EI_of mt_121 (Nat.le_of_ble_eq_true rfl) fun Q hq => ?_⟩
      refine wp_ok (cut := []) ma_121 rfl 24 _ _ _ _ ?_
      show CalI true (d + 2) 120 [vr 233 0] (mr σ a g) ((mr σ a g).1) (fun x2 s1 => ((¬ x2 = 0 → CalI true (d + 2) 115 [vr 233 0] s1 ((mr σ a g).1) (fun x4 s3 => ((x4 = (nI 45) → CalV true (d + 2) 119 [vr 233 0] s3 ((mr σ a g).1) (fun s5 => CalI true (d + 2) 115 [vr 233 0] s5 ((mr σ a g).1) (fun x7 s6 => CalI true (d + 2) 108 [vi x7, vi (nI 49), vi (nI 57)] s6 ((mr σ a g).1) (fun x9 s8 => ((¬ x9 = 0 → CalV true (d + 2) 119 [vr 233 0] s8 ((mr σ a g).1) (fun s10 => CalI true (d + 2) 118 [vr 233 0] s10 ((mr σ a g).1) (fun x12 s11 => ((x12 = 0 → (((nI 1) = 0 ∨ (nI 1) = 1) ∧ (Q (some (vi (nI 1))) s11 ∧ s11.1 = (mr σ a g).1))) ∧ (¬ x12 = 0 → CalV true (d + 2) 119 [vr 233 0] s11 ((mr σ a g).1) (fun s13 => (((nI 1) = 0 ∨ (nI 1) = 1) ∧ (Q (some (vi (nI 1))) s13 ∧ s13.1 = (mr σ a g).1)))))))) ∧ (x9 = 0 → (((nI 0) = 0 ∨ (nI 0) = 1) ∧ (Q (some (vi (nI 0))) s8 ∧ s8.1 = (mr σ a g).1)))))))) ∧ (¬ x4 = (nI 45) → (((nI 1) = 0 ∨ (nI 1) = 1) ∧ (Q (some (vi (nI 1))) s3 ∧ s3.1 = (mr σ a g).1)))))) ∧ (x2 = 0 → (((nI 0) = 0 ∨ (nI 0) = 1) ∧ (Q (some (vi (nI 0))) s1 ∧ s1.1 = (mr σ a g).1)))))
      refine cal_i e1 rfl (b_t' (cal_i (m_next (d + 2) hp l1.2.1 g1) rfl ?_))
      refine br_eq (chr_big hp _) (by omega) (fun h => ?_) (fun h => ⟨Or.inr rfl, hq, rfl⟩)
      have := (chr_eq hp (by omega)).mp h
      rw [h2] at this
      cases this
    | true =>
      obtain ⟨e2, hlt⟩ := pTB_tt h2
      subst e2
      have hch : chr t n a1 = 45 := (chr_eq hp (by omega)).mpr (by rw [h2])
      obtain ⟨g2, hg2, k2⟩ := m_keep (d + 1) hp l1.2.1 hg1 (by rw [sg_len]; show a1 - a < 11; omega)
      rw [show chr t n a1 = t a1 from if_pos hlt, sg_snoc l1.1] at hg2
      have hc2 := chr_lt hp (a1 + 1)
      rcases h3 : pTB t n 49 57 (a1 + 1) with ⟨b, a3⟩
      cases b with
      | false =>
        have e3 := pTB_ff h3
        subst e3
        have em : mAnchor t n a = (false, a1 + 1) := by unfold mAnchor; rw [h1]; dsimp only; rw [h2]; dsimp only; rw [h3]
        rw [em]
        refine ⟨g2, hg2, EI_of mt_121 (Nat.le_of_ble_eq_true rfl) fun Q hq => ?_⟩
        refine wp_ok (cut := []) ma_121 rfl 24 _ _ _ _ ?_
        show CalI true (d + 2) 120 [vr 233 0] (mr σ a g) ((mr σ a g).1) (fun x2 s1 => ((¬ x2 = 0 → CalI true (d + 2) 115 [vr 233 0] s1 ((mr σ a g).1) (fun x4 s3 => ((x4 = (nI 45) → CalV true (d + 2) 119 [vr 233 0] s3 ((mr σ a g).1) (fun s5 => CalI true (d + 2) 115 [vr 233 0] s5 ((mr σ a g).1) (fun x7 s6 => CalI true (d + 2) 108 [vi x7, vi (nI 49), vi (nI 57)] s6 ((mr σ a g).1) (fun x9 s8 => ((¬ x9 = 0 → CalV true (d + 2) 119 [vr 233 0] s8 ((mr σ a g).1) (fun s10 => CalI true (d + 2) 118 [vr 233 0] s10 ((mr σ a g).1) (fun x12 s11 => ((x12 = 0 → (((nI 1) = 0 ∨ (nI 1) = 1) ∧ (Q (some (vi (nI 1))) s11 ∧ s11.1 = (mr σ a g).1))) ∧ (¬ x12 = 0 → CalV true (d + 2) 119 [vr 233 0] s11 ((mr σ a g).1) (fun s13 => (((nI 1) = 0 ∨ (nI 1) = 1) ∧ (Q (some (vi (nI 1))) s13 ∧ s13.1 = (mr σ a g).1)))))))) ∧ (x9 = 0 → (((nI 0) = 0 ∨ (nI 0) = 1) ∧ (Q (some (vi (nI 0))) s8 ∧ s8.1 = (mr σ a g).1)))))))) ∧ (¬ x4 = (nI 45) → (((nI 1) = 0 ∨ (nI 1) = 1) ∧ (Q (some (vi (nI 1))) s3 ∧ s3.1 = (mr σ a g).1)))))) ∧ (x2 = 0 → (((nI 0) = 0 ∨ (nI 0) = 1) ∧ (Q (some (vi (nI 0))) s1 ∧ s1.1 = (mr σ a g).1)))))
        refine cal_i e1 rfl (b_t' (cal_i (m_next (d + 2) hp l1.2.1 g1) rfl ?_))
        refine br_eq (chr_big hp _) (by omega) (fun _ => ?_) (fun h => absurd hch h)
        refine cal_v k2 rfl (cal_i (m_next (d + 2) hp hlt g2) rfl (cal_i (m_in (d + 2) _ (chr_big hp _) (by omega) (by omega)) rfl ?_))
        rw [chr_in hp (by omega), h3]
        exact b_f' ⟨Or.inl rfl, hq, rfl⟩
      | true =>
        obtain ⟨e3, hlt2⟩ := pTB_tt h3
        subst e3
        obtain ⟨g3, hg3, k3⟩ := m_keep (d + 1) hp (show a1 + 1 ≤ n by omega) hg2 (by rw [sg_len]; omega)
        rw [show chr t n (a1 + 1) = t (a1 + 1) from if_pos hlt2, sg_snoc (by omega)] at hg3
        cases h4 : (pTB t n 48 57 (a1 + 1 + 1)).1 with
        | false =>
          have em : mAnchor t n a = (true, a1 + 1 + 1) := by unfold mAnchor; rw [h1]; dsimp only; rw [h2]; dsimp only; rw [h3]; dsimp only; rw [pTB_f h4]
          rw [em]
          refine ⟨g3, hg3, EI_of mt_121 (Nat.le_of_ble_eq_true rfl) fun Q hq => ?_⟩
          refine wp_ok (cut := []) ma_121 rfl 24 _ _ _ _ ?_
          show CalI true (d + 2) 120 [vr 233 0] (mr σ a g) ((mr σ a g).1) (fun x2 s1 => ((¬ x2 = 0 → CalI true (d + 2) 115 [vr 233 0] s1 ((mr σ a g).1) (fun x4 s3 => ((x4 = (nI 45) → CalV true (d + 2) 119 [vr 233 0] s3 ((mr σ a g).1) (fun s5 => CalI true (d + 2) 115 [vr 233 0] s5 ((mr σ a g).1) (fun x7 s6 => CalI true (d + 2) 108 [vi x7, vi (nI 49), vi (nI 57)] s6 ((mr σ a g).1) (fun x9 s8 => ((¬ x9 = 0 → CalV true (d + 2) 119 [vr 233 0] s8 ((mr σ a g).1) (fun s10 => CalI true (d + 2) 118 [vr 233 0] s10 ((mr σ a g).1) (fun x12 s11 => ((x12 = 0 → (((nI 1) = 0 ∨ (nI 1) = 1) ∧ (Q (some (vi (nI 1))) s11 ∧ s11.1 = (mr σ a g).1))) ∧ (¬ x12 = 0 → CalV true (d + 2) 119 [vr 233 0] s11 ((mr σ a g).1) (fun s13 => (((nI 1) = 0 ∨ (nI 1) = 1) ∧ (Q (some (vi (nI 1))) s13 ∧ s13.1 = (mr σ a g).1)))))))) ∧ (x9 = 0 → (((nI 0) = 0 ∨ (nI 0) = 1) ∧ (Q (some (vi (nI 0))) s8 ∧ s8.1 = (mr σ a g).1)))))))) ∧ (¬ x4 = (nI 45) → (((nI 1) = 0 ∨ (nI 1) = 1) ∧ (Q (some (vi (nI 1))) s3 ∧ s3.1 = (mr σ a g).1)))))) ∧ (x2 = 0 → (((nI 0) = 0 ∨ (nI 0) = 1) ∧ (Q (some (vi (nI 0))) s1 ∧ s1.1 = (mr σ a g).1)))))
          refine cal_i e1 rfl (b_t' (cal_i (m_next (d + 2) hp l1.2.1 g1) rfl ?_))
          refine br_eq (chr_big hp _) (by omega) (fun _ => ?_) (fun h => absurd hch h)
          refine cal_v k2 rfl (cal_i (m_next (d + 2) hp hlt g2) rfl (cal_i (m_in (d + 2) _ (chr_big hp _) (by omega) (by omega)) rfl ?_))
          rw [chr_in hp (by omega), h3]
          refine b_t' (cal_v k3 rfl (cal_i (m_digit (d + 1) hp (by omega) g3) rfl ?_))
          rw [h4]
          exact b_f ⟨Or.inr rfl, hq, rfl⟩
        | true =>
          obtain ⟨e5, hlt3⟩ := pTB_t h4
          obtain ⟨g4, hg4, k4⟩ := m_keep (d + 1) hp (show a1 + 1 + 1 ≤ n by omega) hg3 (by rw [sg_len]; omega)
          rw [show chr t n (a1 + 1 + 1) = t (a1 + 1 + 1) from if_pos hlt3, sg_snoc (by omega)] at hg4
          have em : mAnchor t n a = (true, a1 + 1 + 1 + 1) := by unfold mAnchor; rw [h1]; dsimp only; rw [h2]; dsimp only; rw [h3]; dsimp only; rw [e5]
          rw [em]
          refine ⟨g4, hg4, EI_of mt_121 (Nat.le_of_ble_eq_true rfl) fun Q hq => ?_⟩
          refine wp_ok (cut := []) ma_121 rfl 24 _ _ _ _ ?_
          show CalI true (d + 2) 120 [vr 233 0] (mr σ a g) ((mr σ a g).1) (fun x2 s1 => ((¬ x2 = 0 → CalI true (d + 2) 115 [vr 233 0] s1 ((mr σ a g).1) (fun x4 s3 => ((x4 = (nI 45) → CalV true (d + 2) 119 [vr 233 0] s3 ((mr σ a g).1) (fun s5 => CalI true (d + 2) 115 [vr 233 0] s5 ((mr σ a g).1) (fun x7 s6 => CalI true (d + 2) 108 [vi x7, vi (nI 49), vi (nI 57)] s6 ((mr σ a g).1) (fun x9 s8 => ((¬ x9 = 0 → CalV true (d + 2) 119 [vr 233 0] s8 ((mr σ a g).1) (fun s10 => CalI true (d + 2) 118 [vr 233 0] s10 ((mr σ a g).1) (fun x12 s11 => ((x12 = 0 → (((nI 1) = 0 ∨ (nI 1) = 1) ∧ (Q (some (vi (nI 1))) s11 ∧ s11.1 = (mr σ a g).1))) ∧ (¬ x12 = 0 → CalV true (d + 2) 119 [vr 233 0] s11 ((mr σ a g).1) (fun s13 => (((nI 1) = 0 ∨ (nI 1) = 1) ∧ (Q (some (vi (nI 1))) s13 ∧ s13.1 = (mr σ a g).1)))))))) ∧ (x9 = 0 → (((nI 0) = 0 ∨ (nI 0) = 1) ∧ (Q (some (vi (nI 0))) s8 ∧ s8.1 = (mr σ a g).1)))))))) ∧ (¬ x4 = (nI 45) → (((nI 1) = 0 ∨ (nI 1) = 1) ∧ (Q (some (vi (nI 1))) s3 ∧ s3.1 = (mr σ a g).1)))))) ∧ (x2 = 0 → (((nI 0) = 0 ∨ (nI 0) = 1) ∧ (Q (some (vi (nI 0))) s1 ∧ s1.1 = (mr σ a g).1)))))
          refine cal_i e1 rfl (b_t' (cal_i (m_next (d + 2) hp l1.2.1 g1) rfl ?_))
          refine br_eq (chr_big hp _) (by omega) (fun _ => ?_) (fun h => absurd hch h)
          refine cal_v k2 rfl (cal_i (m_next (d + 2) hp hlt g2) rfl (cal_i (m_in (d + 2) _ (chr_big hp _) (by omega) (by omega)) rfl ?_))
          rw [chr_in hp (by omega), h3]
          refine b_t' (cal_v k3 rfl (cal_i (m_digit (d + 1) hp (by omega) g3) rfl ?_))
          rw [h4]
          exact b_t (cal_v k4 rfl ⟨Or.inr rfl, hq, rfl⟩)
theorem mPlace_b {a : Nat} (ha : a ≤ n) : a ≤ (mPlace t n a).2 ∧ (mPlace t n a).2 ≤ n := by
  unfold mPlace
  split
  · rename_i a1 h1; have := pTB_ff h1; show a ≤ a1 ∧ a1 ≤ n; omega
  · rename_i a1 h1
    have := pTB_tt h1
    split
    · rename_i a2 h2; have := pTB_ff h2; show a ≤ a2 ∧ a2 ≤ n; omega
    · rename_i a2 h2
      have := pTB_tt h2
      have := mAnchor_b (t := t) (show a2 ≤ n by omega)
      omega
theorem m_readPlace (d : Nat) (hp : PadM σ n t) {a : Nat} (ha : a ≤ n) (g : Nat → Int32) : ∃ g', RdM g' (plTx t n a) ∧ EI (d + 4) 123 [vr 233 0] (mr σ a g) (bI (mPlace t n a).1) (mr σ (mPlace t n a).2 g') := by
  rcases h1 : pTB t n 65 76 a with ⟨b, a1⟩
  cases b with
  | false =>
    have em : mPlace t n a = (false, a1) := by unfold mPlace; rw [h1]
    have ex : plTx t n a = [] := by unfold plTx; rw [h1]; rfl
    rw [em, ex]
    refine ⟨_, RdM_0 g, EI_of mt_123 (Nat.le_of_ble_eq_true rfl) fun Q hq => ?_⟩
    refine wp_ok (cut := []) ma_123 rfl 18 _ _ _ _ ?_
    show (vp_in (nI 0) 12 ∧ CalI true (d + 3) 122 [vr 233 0] (setI (mr σ a g) 237 0 0 (nI 0)) ((mr σ a g).1) (fun x2 s1 => ((¬ x2 = 0 → CalI true (d + 3) 116 [vr 233 0, vi (nI 35)] s1 ((mr σ a g).1) (fun x4 s3 => ((x4 = 0 → (((nI 1) = 0 ∨ (nI 1) = 1) ∧ (Q (some (vi (nI 1))) s3 ∧ s3.1 = (mr σ a g).1))) ∧ (¬ x4 = 0 → CalI true (d + 3) 121 [vr 233 0] s3 ((mr σ a g).1) (fun x6 s5 => ((x6 = 0 → (((nI 0) = 0 ∨ (nI 0) = 1) ∧ (Q (some (vi (nI 0))) s5 ∧ s5.1 = (mr σ a g).1))) ∧ (¬ x6 = 0 → (((nI 1) = 0 ∨ (nI 1) = 1) ∧ (Q (some (vi (nI 1))) s5 ∧ s5.1 = (mr σ a g).1))))))))) ∧ (x2 = 0 → (((nI 0) = 0 ∨ (nI 0) = 1) ∧ (Q (some (vi (nI 0))) s1 ∧ s1.1 = (mr σ a g).1))))))
    rw [mr_rd]
    refine ⟨inb (by omega) (by omega), cal_i (m_letter (d + 2) hp ha _) rfl ?_⟩
    rw [h1]
    exact b_f' ⟨Or.inl rfl, hq, rfl⟩
  | true =>
    obtain ⟨e1, hlt⟩ := pTB_tt h1
    subst e1
    rcases h2 : pT t n 35 (a + 1) with ⟨b, a2⟩
    cases b with
    | false =>
      have em : mPlace t n a = (true, a2) := by unfold mPlace; rw [h1]; dsimp only; rw [h2]
      have ex : plTx t n a = [] := by unfold plTx; rw [h1, h2]; rfl
      rw [em, ex]
      refine ⟨_, RdM_0 g, EI_of mt_123 (Nat.le_of_ble_eq_true rfl) fun Q hq => ?_⟩
      refine wp_ok (cut := []) ma_123 rfl 18 _ _ _ _ ?_
      show (vp_in (nI 0) 12 ∧ CalI true (d + 3) 122 [vr 233 0] (setI (mr σ a g) 237 0 0 (nI 0)) ((mr σ a g).1) (fun x2 s1 => ((¬ x2 = 0 → CalI true (d + 3) 116 [vr 233 0, vi (nI 35)] s1 ((mr σ a g).1) (fun x4 s3 => ((x4 = 0 → (((nI 1) = 0 ∨ (nI 1) = 1) ∧ (Q (some (vi (nI 1))) s3 ∧ s3.1 = (mr σ a g).1))) ∧ (¬ x4 = 0 → CalI true (d + 3) 121 [vr 233 0] s3 ((mr σ a g).1) (fun x6 s5 => ((x6 = 0 → (((nI 0) = 0 ∨ (nI 0) = 1) ∧ (Q (some (vi (nI 0))) s5 ∧ s5.1 = (mr σ a g).1))) ∧ (¬ x6 = 0 → (((nI 1) = 0 ∨ (nI 1) = 1) ∧ (Q (some (vi (nI 1))) s5 ∧ s5.1 = (mr σ a g).1))))))))) ∧ (x2 = 0 → (((nI 0) = 0 ∨ (nI 0) = 1) ∧ (Q (some (vi (nI 0))) s1 ∧ s1.1 = (mr σ a g).1))))))
      rw [mr_rd]
      refine ⟨inb (by omega) (by omega), cal_i (m_letter (d + 2) hp ha _) rfl ?_⟩
      rw [h1]
      refine b_t' (cal_i (m_isNext (d + 2) hp hlt (by omega) (by omega) _) rfl ?_)
      rw [h2]
      exact b_f ⟨Or.inr rfl, hq, rfl⟩
    | true =>
      obtain ⟨e2, hlt2⟩ := pTB_tt h2
      subst e2
      obtain ⟨g', hg', k⟩ := m_readAnchor d hp (show a + 1 + 1 ≤ n by omega) (upd g 0 (nI 0))
      have em : mPlace t n a = mAnchor t n (a + 1 + 1) := by unfold mPlace; rw [h1]; dsimp only; rw [h2]
      have ex : plTx t n a = sg t (a + 1 + 1) ((mAnchor t n (a + 1 + 1)).2 - (a + 1 + 1)) := by unfold plTx; rw [h1, h2, em]; rfl
      rw [em, ex]
      refine ⟨g', hg', EI_of mt_123 (Nat.le_of_ble_eq_true rfl) fun Q hq => ?_⟩
      refine wp_ok (cut := []) ma_123 rfl 18 _ _ _ _ ?_
      show (vp_in (nI 0) 12 ∧ CalI true (d + 3) 122 [vr 233 0] (setI (mr σ a g) 237 0 0 (nI 0)) ((mr σ a g).1) (fun x2 s1 => ((¬ x2 = 0 → CalI true (d + 3) 116 [vr 233 0, vi (nI 35)] s1 ((mr σ a g).1) (fun x4 s3 => ((x4 = 0 → (((nI 1) = 0 ∨ (nI 1) = 1) ∧ (Q (some (vi (nI 1))) s3 ∧ s3.1 = (mr σ a g).1))) ∧ (¬ x4 = 0 → CalI true (d + 3) 121 [vr 233 0] s3 ((mr σ a g).1) (fun x6 s5 => ((x6 = 0 → (((nI 0) = 0 ∨ (nI 0) = 1) ∧ (Q (some (vi (nI 0))) s5 ∧ s5.1 = (mr σ a g).1))) ∧ (¬ x6 = 0 → (((nI 1) = 0 ∨ (nI 1) = 1) ∧ (Q (some (vi (nI 1))) s5 ∧ s5.1 = (mr σ a g).1))))))))) ∧ (x2 = 0 → (((nI 0) = 0 ∨ (nI 0) = 1) ∧ (Q (some (vi (nI 0))) s1 ∧ s1.1 = (mr σ a g).1))))))
      rw [mr_rd]
      refine ⟨inb (by omega) (by omega), cal_i (m_letter (d + 2) hp ha _) rfl ?_⟩
      rw [h1]
      refine b_t' (cal_i (m_isNext (d + 2) hp hlt (by omega) (by omega) _) rfl ?_)
      rw [h2]
      refine b_t (cal_i k rfl ?_)
      rcases h3 : mAnchor t n (a + 1 + 1) with ⟨b, a3⟩
      rw [h3] at hq
      cases b with
      | false => exact b_f ⟨Or.inl rfl, hq, rfl⟩
      | true => exact b_t ⟨Or.inr rfl, hq, rfl⟩
theorem mEq_b : ∀ (k a : Nat), a ≤ n → a ≤ mEq t n k a ∧ mEq t n k a ≤ n := by
  intro k
  induction k with
  | zero => intro a h; exact ⟨Nat.le_refl _, h⟩
  | succ k ih =>
    intro a h
    unfold mEq
    split
    · rename_i q
      have := pT_t q
      have := ih (a + 1) (by omega)
      omega
    · exact ⟨Nat.le_refl _, h⟩
theorem s_mhead (d : Nat) (hp : PadM σ n t) (g : Nat → Int32) : ∀ (k i a : Nat), i + k = 3 → a ≤ n → ∃ g', ∀ Q : Option AV → Hp → Prop, Q (some (vi (bI (mName t n (mEq t n k a)).1))) (mr σ (mName t n (mEq t n k a)).2 g') → Sat true (d + 3) 124 σ.1 Q 2 [some (vr 233 0), some (vi (nI i))] [] (mr σ a g) := by
  intro k
  induction k with
  | zero =>
    intro i a hi ha
    obtain ⟨g', -, e⟩ := m_readName d hp ha g
    refine ⟨g', fun Q hq => ?_⟩
    refine wp_ok (cut := [2]) ma_124 rfl 10 _ _ _ _ ?_
    show (((nI 3) ≤ (nI i) → CalI true (d + 2) 120 [vr 233 0] (mr σ a g) σ.1 (fun x2 s1 => ((x2 = 0 ∨ x2 = 1) ∧ (Q (some (vi x2)) s1 ∧ s1.1 = σ.1)))) ∧ (¬ (nI 3) ≤ (nI i) → CalI true (d + 2) 116 [vr 233 0, vi (nI 61)] (mr σ a g) σ.1 (fun x4 s3 => ((x4 = 0 → CalI true (d + 2) 120 [vr 233 0] s3 σ.1 (fun x6 s5 => ((x6 = 0 ∨ x6 = 1) ∧ (Q (some (vi x6)) s5 ∧ s5.1 = σ.1)))) ∧ (¬ x4 = 0 → Sat true (d + 3) 124 σ.1 Q 2 [some (vr 233 0), some (vi ((nI i) + nI 1))] [] s3)))))
    exact br_le (by omega) (by omega) (fun _ => cal_i e rfl ⟨bI_01 _, hq, rfl⟩) (fun h => by omega)
  | succ k ih =>
    intro i a hi ha
    cases e : (pT t n 61 a).1 with
    | true =>
      obtain ⟨e1, hlt⟩ := pT_t e
      obtain ⟨g', hk⟩ := ih (i + 1) (a + 1) (by omega) hlt
      have em : mEq t n (k + 1) a = mEq t n k (a + 1) := by conv => lhs; unfold mEq; rw [e, if_pos rfl]
      rw [em]
      refine ⟨g', fun Q hq => ?_⟩
      refine wp_ok (cut := [2]) ma_124 rfl 10 _ _ _ _ ?_
      show (((nI 3) ≤ (nI i) → CalI true (d + 2) 120 [vr 233 0] (mr σ a g) σ.1 (fun x2 s1 => ((x2 = 0 ∨ x2 = 1) ∧ (Q (some (vi x2)) s1 ∧ s1.1 = σ.1)))) ∧ (¬ (nI 3) ≤ (nI i) → CalI true (d + 2) 116 [vr 233 0, vi (nI 61)] (mr σ a g) σ.1 (fun x4 s3 => ((x4 = 0 → CalI true (d + 2) 120 [vr 233 0] s3 σ.1 (fun x6 s5 => ((x6 = 0 ∨ x6 = 1) ∧ (Q (some (vi x6)) s5 ∧ s5.1 = σ.1)))) ∧ (¬ x4 = 0 → Sat true (d + 3) 124 σ.1 Q 2 [some (vr 233 0), some (vi ((nI i) + nI 1))] [] s3)))))
      refine br_le (by omega) (by omega) (fun h => by omega) (fun _ => cal_i (m_isNext (d + 1) hp ha (by omega) (by omega) g) rfl ?_)
      rw [e, e1, addN]
      exact b_t (hk Q hq)
    | false =>
      obtain ⟨g', -, e2⟩ := m_readName d hp ha g
      have em : mEq t n (k + 1) a = a := by unfold mEq; rw [e, if_neg (by decide)]
      rw [em]
      refine ⟨g', fun Q hq => ?_⟩
      refine wp_ok (cut := [2]) ma_124 rfl 10 _ _ _ _ ?_
      show (((nI 3) ≤ (nI i) → CalI true (d + 2) 120 [vr 233 0] (mr σ a g) σ.1 (fun x2 s1 => ((x2 = 0 ∨ x2 = 1) ∧ (Q (some (vi x2)) s1 ∧ s1.1 = σ.1)))) ∧ (¬ (nI 3) ≤ (nI i) → CalI true (d + 2) 116 [vr 233 0, vi (nI 61)] (mr σ a g) σ.1 (fun x4 s3 => ((x4 = 0 → CalI true (d + 2) 120 [vr 233 0] s3 σ.1 (fun x6 s5 => ((x6 = 0 ∨ x6 = 1) ∧ (Q (some (vi x6)) s5 ∧ s5.1 = σ.1)))) ∧ (¬ x4 = 0 → Sat true (d + 3) 124 σ.1 Q 2 [some (vr 233 0), some (vi ((nI i) + nI 1))] [] s3)))))
      refine br_le (by omega) (by omega) (fun h => by omega) (fun _ => cal_i (m_isNext (d + 1) hp ha (by omega) (by omega) g) rfl ?_)
      rw [e, pT_f e]
      exact b_f (cal_i e2 rfl ⟨bI_01 _, hq, rfl⟩)
theorem m_readHeading (d : Nat) (hp : PadM σ n t) {a : Nat} (ha : a ≤ n) (g : Nat → Int32) : ∃ g', EI (d + 3) 124 [vr 233 0] (mr σ a g) (bI (mHead t n a).1) (mr σ (mHead t n a).2 g') := by
  obtain ⟨g', hk⟩ := s_mhead d hp g 3 0 a (by omega) ha
  refine ⟨g', EI_of mt_124 (Nat.le_of_ble_eq_true rfl) fun Q hq => ?_⟩
  refine wp_ok (cut := [2]) ma_124 rfl 2 _ _ _ _ ?_
  show Sat true (d + 3) 124 ((mr σ a g).1) Q 2 [some (vr 233 0), some (vi (nI 0))] [] (mr σ a g)
  exact hk Q hq
theorem m_readInclude (d : Nat) (hp : PadM σ n t) {a : Nat} (ha : a ≤ n) (g : Nat → Int32) : EI (d + 2) 125 [vr 233 0] (mr σ a g) (bI (pIncl t n a).1) (mr σ (pIncl t n a).2 g) := by
  refine EI_of mt_125 (Nat.le_of_ble_eq_true rfl) fun Q hq => ?_
  refine wp_ok (cut := []) ma_125 rfl 27 _ _ _ _ ?_
  show CalI true (d + 1) 116 [vr 233 0, vi (nI 123)] (mr σ a g) ((mr σ a g).1) (fun x2 s1 => ((x2 = 0 → (((nI 0) = 0 ∨ (nI 0) = 1) ∧ (Q (some (vi (nI 0))) s1 ∧ s1.1 = (mr σ a g).1))) ∧ (¬ x2 = 0 → CalI true (d + 1) 122 [vr 233 0] s1 ((mr σ a g).1) (fun x4 s3 => ((¬ x4 = 0 → CalI true (d + 1) 116 [vr 233 0, vi (nI 43)] s3 ((mr σ a g).1) (fun x6 s5 => ((x6 = 0 → CalI true (d + 1) 116 [vr 233 0, vi (nI 125)] s5 ((mr σ a g).1) (fun x8 s7 => ((x8 = 0 ∨ x8 = 1) ∧ (Q (some (vi x8)) s7 ∧ s7.1 = (mr σ a g).1)))) ∧ (¬ x6 = 0 → CalI true (d + 1) 115 [vr 233 0] s5 ((mr σ a g).1) (fun x10 s9 => CalI true (d + 1) 108 [vi x10, vi (nI 48), vi (nI 50)] s9 ((mr σ a g).1) (fun x12 s11 => ((¬ x12 = 0 → CalI true (d + 1) 116 [vr 233 0, vi (nI 125)] (setI s11 233 0 6 ((hI s11 233 0 6) + (nI 1))) ((mr σ a g).1) (fun x14 s13 => ((x14 = 0 ∨ x14 = 1) ∧ (Q (some (vi x14)) s13 ∧ s13.1 = (mr σ a g).1)))) ∧ (x12 = 0 → (((nI 0) = 0 ∨ (nI 0) = 1) ∧ (Q (some (vi (nI 0))) s11 ∧ s11.1 = (mr σ a g).1)))))))))) ∧ (x4 = 0 → (((nI 0) = 0 ∨ (nI 0) = 1) ∧ (Q (some (vi (nI 0))) s3 ∧ s3.1 = (mr σ a g).1))))))))
  unfold pIncl at hq
  refine cal_i (m_isNext d hp ha (by omega) (by omega) g) rfl ?_
  have l1 := pT_le (t := t) (x := 123) ha
  rcases h1 : pT t n 123 a with ⟨b, a1⟩
  rw [h1] at hq l1
  cases b with
  | false => exact b_f ⟨Or.inl rfl, hq, rfl⟩
  | true =>
    refine b_t (cal_i (m_letter d hp l1 g) rfl ?_)
    have l2 := pTB_le (t := t) (x := 65) (y := 76) l1
    rcases h2 : pTB t n 65 76 a1 with ⟨b, a2⟩
    simp only [h2] at hq l2
    cases b with
    | false => exact b_f' ⟨Or.inl rfl, hq, rfl⟩
    | true =>
      refine b_t' (cal_i (m_isNext d hp l2 (by omega) (by omega) g) rfl ?_)
      have l3 := pT_le (t := t) (x := 43) l2
      rcases h3 : pT t n 43 a2 with ⟨b, a3⟩
      simp only [h3] at hq l3
      cases b with
      | false => exact b_f (cal_i (m_isNext d hp l3 (by omega) (by omega) g) rfl ⟨bI_01 _, hq, rfl⟩)
      | true =>
        have hc3 := chr_lt hp a3
        refine b_t (cal_i (m_next (d + 1) hp l3 g) rfl (cal_i (m_in (d + 1) _ (chr_big hp _) (by omega) (by omega)) rfl ?_))
        rw [chr_in hp (by omega)]
        rcases h4 : pTB t n 48 50 a3 with ⟨b, a4⟩
        simp only [h4] at hq
        cases b with
        | false =>
          have := pTB_ff h4
          subst this
          exact b_f' ⟨Or.inl rfl, hq, rfl⟩
        | true =>
          obtain ⟨e4, hlt⟩ := pTB_tt h4
          subst e4
          refine b_t' ?_
          show CalI true (d + 1) 116 [vr 233 0, vi (nI 125)] (setI (mr σ a3 g) 233 0 6 (nI a3 + nI 1)) _ _
          rw [addN, mr_at]
          exact cal_i (m_isNext d hp hlt (by omega) (by omega) g) rfl ⟨bI_01 _, hq, rfl⟩
end
