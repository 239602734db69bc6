/-! the model: putDown, undo; what is kept of the site -/
abbrev DB : Type := (Nat → List Line) × List (Pl × Pl) × List En
def DBM (h : Hp) (x : DB) : Prop := (∀ p, p < 12 → SrcM h p (x.1 p)) ∧ TrsM h x.2.1 ∧ EnsM h x.2.2
theorem RowP_cong {u v : Nat → Int32} {o p : Nat} {w : List Nat} (h : RowP u o p w) (e : ∀ k, o ≤ k → k < o + 14 → v k = u k) : RowP v o p w := ⟨by rw [e o (by omega) (by omega)]; exact h.1, by rw [e (o + 1) (by omega) (by omega)]; exact h.2.1, RowA_cong h.2.2 fun k a b => e k (by omega) (by omega)⟩
theorem DBM_lt {h h' : Hp} {x : DB} (e : ∀ i, i < 2830 → hI h' 235 0 i = hI h 235 0 i) (k : DBM h x) : DBM h' x := by
  obtain ⟨k1, ⟨t1, t2, t3⟩, ⟨n1, n2, n3⟩⟩ := k
  refine ⟨fun p hp => ?_, ⟨by rw [e _ (by omega)]; exact t1, t2, fun j y hy => ?_⟩, ⟨by rw [e _ (by omega)]; exact n1, n2, fun j y hy => ?_⟩⟩
  · obtain ⟨s1, s2, s3, s4⟩ := k1 p hp
    exact ⟨s1, s2, by rw [e _ (by omega)]; exact s3, Tx_cong s4 fun k a b => e k (by omega)⟩
  · have hj := All_lt hy
    obtain ⟨r1, r2, r3⟩ := t3 j y hy
    exact ⟨RowP_cong r1 fun k a b => e k (by omega), RowP_cong r2 fun k a b => e k (by omega), r3⟩
  · have hj := All_lt hy
    obtain ⟨r1, r2, r3, r4⟩ := n3 j y hy
    exact ⟨by rw [e _ (by omega)]; exact r1, by rw [e _ (by omega)]; exact r2, RowA_cong r3 fun k a b => e k (by omega), r4⟩
def rwU (σ : Hp) (k : Nat) : Hp := arrI σ 235 0 (fun i => hI σ 236 0 (2830 * k + i))
theorem rwU_at (σ : Hp) (k i : Nat) : hI (rwU σ k) 235 0 i = hI σ 236 0 (2830 * k + i) := by
  unfold rwU
  rw [hI_a]
def HiM (σ : Hp) (D : List DB) : Prop := hI σ 233 0 4 = nI D.length ∧ D.length ≤ 10 ∧ All D (fun k x => DBM (rwU σ k) x)
theorem HiM_cong {h h' : Hp} {D : List DB} (e4 : hI h' 233 0 4 = hI h 233 0 4) (e : hI h' 236 0 = hI h 236 0) (k : HiM h D) : HiM h' D := ⟨e4.trans k.1, k.2.1, All_mo k.2.2 fun j x _ q => DBM_lt (fun i _ => by rw [rwU_at, rwU_at, e]) q⟩
theorem HiM_fr {S : Nat → Nat → Prop} {h h' : Hp} {D : List DB} (f : FrM S h h') (n4 : ¬ S 233 4) (n : ∀ k, ¬ S 236 k) (k : HiM h D) : HiM h' D := HiM_cong (f.2.2.2 233 0 4 fun q => n4 q.2) (f.fam n 0) k
def capD (D : List DB) : List DB := if 10 ≤ D.length then D.drop 1 else D
theorem capD_len {D : List DB} (h : D.length ≤ 10) : (capD D).length ≤ 9 := by
  unfold capD
  by_cases c : 10 ≤ D.length
  · rw [if_pos c, List.length_drop]
    omega
  · rw [if_neg c]
    omega
def SPd (f k : Nat) : Prop := f = 236 ∨ (f = 233 ∧ k = 4)
section
variable {σ : Hp} {D : List DB} {x : DB}
theorem m_putDown (d : Nat) (hD : HiM σ D) (hx : DBM σ x) : PV d 133 [vr 233 0] σ (fun h => HiM h (capD D ++ [x]) ∧ FrM SPd σ h) := by
  refine PV_of mt_133 (Nat.le_of_ble_eq_true rfl) fun Q hq => ?_
  have h10 := hD.2.1
  have c9 := capD_len h10
  have loop2 : ∀ (n k : Nat) (h0 h : Hp), k + n = 2830 → All (capD D) (fun j y => DBM (rwU h0 j) y) → FrM SPd σ h → hI h 233 0 4 = nI (capD D).length → (∀ i, i < 2830 * (capD D).length → hI h 236 0 i = hI h0 236 0 i) → (∀ i, i < k → hI h 236 0 (2830 * (capD D).length + i) = hI σ 235 0 i) → Sat true d 133 σ.1 Q 54 [some (vr 233 0), some (vi (nI k))] [] h := by
    intro n
    induction n with
    | zero =>
      intro k h0 h hk ha f h4 a1 a2
      refine wp_ok (cut := [54]) ma_133 rfl 18 _ _ _ _ ?_
      show (((nI 2830) ≤ (nI k) → (Q none (setI h 233 0 4 ((hI h 233 0 4) + (nI 1))) ∧ h.1 = σ.1)) ∧ (¬ (nI 2830) ≤ (nI k) → (vp_in (nI k) 2830 ∧ (vp_in (((nI 2830) * (hI h 233 0 4)) + (nI k)) 28300 ∧ Sat true d 133 σ.1 Q 54 [some (vr 233 0), some (vi ((nI k) + nI 1))] [] (setI h 236 0 ((((nI 2830) * (hI h 233 0 4)) + (nI k)).toNatClampNeg) (hI h 235 0 ((nI k).toNatClampNeg)))))))
      rw [h4, addN]
      refine br_le (by omega) (by omega) (fun _ => ⟨hq _ ⟨⟨?_, ?_, ?_⟩, f.sI (f := 233) (k := 4) (Or.inr ⟨rfl, rfl⟩) _⟩, f.1⟩) (fun g => by omega)
      · rw [hI_s, List.length_append]
        rfl
      · rw [List.length_append]
        show (capD D).length + 1 ≤ 10
        omega
      · refine All_snoc ha (fun j y hj q => DBM_lt (fun i hi => ?_) q) (DBM_lt (fun i hi => ?_) hx)
        · rw [rwU_at, rwU_at, hI_f _ _ _ (by omega)]
          exact a1 _ (by omega)
        · rw [rwU_at, hI_f _ _ _ (by omega)]
          exact a2 i (by omega)
    | succ n ih =>
      intro k h0 h hk ha f h4 a1 a2
      refine wp_ok (cut := [54]) ma_133 rfl 18 _ _ _ _ ?_
      show (((nI 2830) ≤ (nI k) → (Q none (setI h 233 0 4 ((hI h 233 0 4) + (nI 1))) ∧ h.1 = σ.1)) ∧ (¬ (nI 2830) ≤ (nI k) → (vp_in (nI k) 2830 ∧ (vp_in (((nI 2830) * (hI h 233 0 4)) + (nI k)) 28300 ∧ Sat true d 133 σ.1 Q 54 [some (vr 233 0), some (vi ((nI k) + nI 1))] [] (setI h 236 0 ((((nI 2830) * (hI h 233 0 4)) + (nI k)).toNatClampNeg) (hI h 235 0 ((nI k).toNatClampNeg)))))))
      rw [h4, mulN, addN, addN, addN, ix (by omega), ix (by omega)]
      refine br_le (by omega) (by omega) (fun g => by omega) (fun _ => ⟨inb (by omega) (by omega), inb (by omega) (by omega), ih (k + 1) h0 _ (by omega) ha (f.sI (f := 236) (Or.inl rfl) _) ?_ (fun i hi => ?_) (fun i hi => ?_)⟩)
      · rw [hI_f _ _ _ (by omega)]
        exact h4
      · rw [hI_k _ _ _ _ (by omega)]
        exact a1 i hi
      · by_cases c : i = k
        · rw [c, hI_s, f.fam (f := 235) (fun k w => by unfold SPd at w; omega) 0]
        · rw [hI_k _ _ _ _ (by omega)]
          exact a2 i (by omega)
  have loop1 : 10 ≤ D.length → ∀ (n k : Nat) (h : Hp), k + n = 28300 → 2830 ≤ k → FrM SPd σ h → hI h 233 0 4 = nI 10 → (∀ i, i + 2830 < k → hI h 236 0 i = hI σ 236 0 (i + 2830)) → (∀ i, k ≤ i + 2830 → hI h 236 0 i = hI σ 236 0 i) → Sat true d 133 σ.1 Q 13 [some (vr 233 0), some (vi (nI k))] [] h := by
    intro hl n
    induction n with
    | zero =>
      intro k h hk h28 f h4 a1 a2
      have e : capD D = D.drop 1 := if_pos hl
      refine wp_ok (cut := [13, 54]) ma_133 rfl 15 _ _ _ _ ?_
      show (((nI 28300) ≤ (nI k) → Sat true d 133 σ.1 Q 54 [some (vr 233 0), some (vi (nI 0))] [] (setI h 233 0 4 ((hI h 233 0 4) - (nI 1)))) ∧ (¬ (nI 28300) ≤ (nI k) → (vp_in (nI k) 28300 ∧ (vp_in ((nI k) - (nI 2830)) 28300 ∧ Sat true d 133 σ.1 Q 13 [some (vr 233 0), some (vi ((nI k) + nI 1))] [] (setI h 236 0 (((nI k) - (nI 2830)).toNatClampNeg) (hI h 236 0 ((nI k).toNatClampNeg)))))))
      rw [h4, subN (a := 10) (b := 1) (by omega)]
      refine br_le (by omega) (by omega) (fun _ => ?_) (fun g => by omega)
      refine loop2 2830 0 (setI h 233 0 4 (nI (10 - 1))) _ (by omega) (fun j y hy => ?_) (f.sI (f := 233) (k := 4) (Or.inr ⟨rfl, rfl⟩) _) ?_ (fun i hi => rfl) (fun i hi => absurd hi (Nat.not_lt_zero _))
      · rw [e, List.getElem?_drop] at hy
        have hj := All_lt hy
        refine DBM_lt (fun i hi => ?_) (hD.2.2 (1 + j) y hy)
        rw [rwU_at, rwU_at, hI_f _ _ _ (by omega), a1 _ (by omega), show 2830 * j + i + 2830 = 2830 * (1 + j) + i by omega]
      · rw [hI_s, e, List.length_drop, show D.length = 10 by omega]
    | succ n ih =>
      intro k h hk h28 f h4 a1 a2
      refine wp_ok (cut := [13, 54]) ma_133 rfl 15 _ _ _ _ ?_
      show (((nI 28300) ≤ (nI k) → Sat true d 133 σ.1 Q 54 [some (vr 233 0), some (vi (nI 0))] [] (setI h 233 0 4 ((hI h 233 0 4) - (nI 1)))) ∧ (¬ (nI 28300) ≤ (nI k) → (vp_in (nI k) 28300 ∧ (vp_in ((nI k) - (nI 2830)) 28300 ∧ Sat true d 133 σ.1 Q 13 [some (vr 233 0), some (vi ((nI k) + nI 1))] [] (setI h 236 0 (((nI k) - (nI 2830)).toNatClampNeg) (hI h 236 0 ((nI k).toNatClampNeg)))))))
      rw [subN (a := k) (b := 2830) (by omega), addN, ix (by omega), ix (by omega)]
      refine br_le (by omega) (by omega) (fun g => by omega) (fun _ => ⟨inb (by omega) (by omega), inb (by omega) (by omega), ih (k + 1) _ (by omega) (by omega) (f.sI (f := 236) (Or.inl rfl) _) ?_ (fun i hi => ?_) (fun i hi => ?_)⟩)
      · rw [hI_f _ _ _ (by omega)]
        exact h4
      · by_cases c : i = k - 2830
        · rw [c, hI_s, a2 k (by omega), show k - 2830 + 2830 = k by omega]
        · rw [hI_k _ _ _ _ (by omega)]
          exact a1 i (by omega)
      · rw [hI_k _ _ _ _ (by omega)]
        exact a2 i (by omega)
  refine wp_ok (cut := [13, 54]) ma_133 rfl 6 _ _ _ _ ?_
  show ((¬ (hI σ 233 0 4) = (nI 10) → Sat true d 133 σ.1 Q 54 [some (vr 233 0), some (vi (nI 0))] [] σ) ∧ ((hI σ 233 0 4) = (nI 10) → Sat true d 133 σ.1 Q 13 [some (vr 233 0), some (vi (nI 2830))] [] σ))
  rw [hD.1]
  refine br_ne (by omega) (by omega) (fun g => ?_) (fun g => ?_)
  · have e : capD D = D := if_neg (by omega)
    exact loop2 2830 0 σ σ (by omega) (by rw [e]; exact hD.2.2) (FrM.rfl' _ _) (by rw [e]; exact hD.1) (fun _ _ => rfl) (fun i hi => absurd hi (Nat.not_lt_zero _))
  · exact loop1 (by omega) 25470 2830 σ (by omega) (by omega) (FrM.rfl' _ _) (by rw [hD.1, g]) (fun i hi => by omega) (fun _ _ => rfl)
theorem m_undoN (d : Nat) (hD : HiM σ []) : EI d 134 [vr 233 0] σ (-5) σ := by
  refine EI_of mt_134 (Nat.le_of_ble_eq_true rfl) fun Q hq => ?_
  refine wp_ok (cut := [22]) ma_134 rfl 11 _ _ _ _ ?_
  show ((¬ (hI σ 233 0 4) = 0 → Sat true d 134 σ.1 Q 22 [some (vr 233 0), some (vi (nI 0))] [] (setI σ 233 0 4 ((hI σ 233 0 4) - (nI 1)))) ∧ ((hI σ 233 0 4) = 0 → (Q (some (vi (-5))) σ ∧ σ.1 = σ.1)))
  have h4 : hI σ 233 0 4 = 0 := hD.1
  rw [h4]
  exact ⟨fun g => absurd rfl g, fun _ => ⟨hq, rfl⟩⟩
def SUn (f k : Nat) : Prop := f = 235 ∨ (f = 233 ∧ (k = 4 ∨ k = 5))
theorem m_undoY (d : Nat) (hD : HiM σ (D ++ [x])) : PI d 134 [vr 233 0] σ (nI D.length) (fun h => HiM h D ∧ DBM h x ∧ hI h 233 0 5 = nI 0 ∧ FrM SUn σ h) := by
  refine PI_of mt_134 (Nat.le_of_ble_eq_true rfl) fun Q hq => ?_
  obtain ⟨d1, d2, d3⟩ := hD
  rw [List.length_append] at d1 d2
  have d1 : hI σ 233 0 4 = nI (D.length + 1) := d1
  have d2 : D.length + 1 ≤ 10 := d2
  have dx : DBM (rwU σ D.length) x := d3 D.length x (by rw [List.getElem?_append_right (Nat.le_refl _), Nat.sub_self]; rfl)
  have loop : ∀ (n k : Nat) (h : Hp), k + n = 2830 → FrM SUn σ h → hI h 233 0 4 = nI D.length → (∀ i, i < k → hI h 235 0 i = hI σ 236 0 (2830 * D.length + i)) → Sat true d 134 σ.1 Q 22 [some (vr 233 0), some (vi (nI k))] [] h := by
    intro n
    induction n with
    | zero =>
      intro k h hk f h4 a1
      have e6 : hI h 236 0 = hI σ 236 0 := f.fam (fun k w => by unfold SUn at w; omega) 0
      refine wp_ok (cut := [22]) ma_134 rfl 18 _ _ _ _ ?_
      show (((nI 2830) ≤ (nI k) → (((nI 0) = 0 ∨ (nI 0) = 1) ∧ (Q (some (vi (hI h 233 0 4))) (setI h 233 0 5 (nI 0)) ∧ h.1 = σ.1))) ∧ (¬ (nI 2830) ≤ (nI k) → (vp_in (((nI 2830) * (hI h 233 0 4)) + (nI k)) 28300 ∧ (vp_in (nI k) 2830 ∧ Sat true d 134 σ.1 Q 22 [some (vr 233 0), some (vi ((nI k) + nI 1))] [] (setI h 235 0 ((nI k).toNatClampNeg) (hI h 236 0 ((((nI 2830) * (hI h 233 0 4)) + (nI k)).toNatClampNeg)))))))
      rw [h4]
      refine br_le (by omega) (by omega) (fun _ => ⟨Or.inl rfl, hq _ ⟨⟨?_, by omega, ?_⟩, ?_, hI_s _ _ _ _ _, f.sI (f := 233) (k := 5) (Or.inr ⟨rfl, Or.inr rfl⟩) _⟩, f.1⟩) (fun g => by omega)
      · rw [hI_k _ _ _ _ (by omega)]
        exact h4
      · intro j y hy
        have hj := All_lt hy
        refine DBM_lt (fun i hi => ?_) (d3 j y (by rw [List.getElem?_append_left hj]; exact hy))
        rw [rwU_at, rwU_at, hI_f _ _ _ (by omega), e6]
      · refine DBM_lt (fun i hi => ?_) dx
        rw [rwU_at, hI_f _ _ _ (by omega)]
        exact a1 i (by omega)
    | succ n ih =>
      intro k h hk f h4 a1
      have e6 : hI h 236 0 = hI σ 236 0 := f.fam (fun k w => by unfold SUn at w; omega) 0
      refine wp_ok (cut := [22]) ma_134 rfl 18 _ _ _ _ ?_
      show (((nI 2830) ≤ (nI k) → (((nI 0) = 0 ∨ (nI 0) = 1) ∧ (Q (some (vi (hI h 233 0 4))) (setI h 233 0 5 (nI 0)) ∧ h.1 = σ.1))) ∧ (¬ (nI 2830) ≤ (nI k) → (vp_in (((nI 2830) * (hI h 233 0 4)) + (nI k)) 28300 ∧ (vp_in (nI k) 2830 ∧ Sat true d 134 σ.1 Q 22 [some (vr 233 0), some (vi ((nI k) + nI 1))] [] (setI h 235 0 ((nI k).toNatClampNeg) (hI h 236 0 ((((nI 2830) * (hI h 233 0 4)) + (nI k)).toNatClampNeg)))))))
      rw [h4, mulN, addN, addN, ix (by omega), ix (by omega), e6]
      refine br_le (by omega) (by omega) (fun g => by omega) (fun _ => ⟨inb (by omega) (by omega), inb (by omega) (by omega), ih (k + 1) _ (by omega) (f.sI (f := 235) (Or.inl rfl) _) ?_ (fun i hi => ?_)⟩)
      · rw [hI_f _ _ _ (by omega)]
        exact h4
      · by_cases c : i = k
        · rw [c, hI_s]
        · rw [hI_k _ _ _ _ (by omega)]
          exact a1 i (by omega)
  refine wp_ok (cut := [22]) ma_134 rfl 11 _ _ _ _ ?_
  show ((¬ (hI σ 233 0 4) = 0 → Sat true d 134 σ.1 Q 22 [some (vr 233 0), some (vi (nI 0))] [] (setI σ 233 0 4 ((hI σ 233 0 4) - (nI 1)))) ∧ ((hI σ 233 0 4) = 0 → (Q (some (vi (-5))) σ ∧ σ.1 = σ.1)))
  rw [d1, subN (a := D.length + 1) (b := 1) (by omega)]
  refine ⟨fun _ => loop 2830 0 _ (by omega) ((FrM.rfl' _ _).sI (f := 233) (k := 4) (Or.inr ⟨rfl, Or.inl rfl⟩) _) ?_ (fun i hi => absurd hi (Nat.not_lt_zero _)), fun g => ?_⟩
  · rw [hI_s]
    rfl
  · have : nI (D.length + 1) = nI 0 := g
    have := (eqN (by omega) (by omega)).mp this
    omega
end
