/-! character: the class and the model -/
def chaV (ls : List Line) (y : Int32) : Int32 := if ls = [] then (-5) else if y = (-1) then nI (txPg ls).length else if rngI y (txPg ls).length then nI ((txPg ls).getD y.toNatClampNeg 0) else (-6)
def characterV (P : Nat → List Line) (x y : Int32) : Int32 := if rngI x 12 then chaV (P x.toNatClampNeg) y else (-1)
theorem e_character (d : Nat) {σ : Hp} {P : Nat → List Line} (hs : ∀ p, p < 12 → SrcC σ 0 p (P p)) (x y : Int32) : EI (d + 1) 74 [vr 1 0, vi x, vi y] σ (characterV P x y) σ := by
  refine EI_of mt_74 (Nat.le_of_ble_eq_true rfl) fun Q hq => ?_
  unfold characterV at hq
  refine wp_ok (cut := []) ma_74 rfl 36 _ _ _ _ ?_
  show CalI true d 93 [vi x] σ σ.1 (fun x2 s1 => ((¬ x2 = 0 → CalI true d 60 [vr 8 0, vi x] s1 σ.1 (fun x4 s3 => ((¬ x4 = 0 → (vp_in x 12 ∧ ((¬ y = (-1) → ((y < 0 → (Q (some (vi (-6))) s3 ∧ s3.1 = σ.1)) ∧ (¬ y < 0 → (((hI s3 10 0 x.toNatClampNeg) ≤ y → (Q (some (vi (-6))) s3 ∧ s3.1 = σ.1)) ∧ (¬ (hI s3 10 0 x.toNatClampNeg) ≤ y → (vp_in ((x * (nI 160)) + y) 1920 ∧ (Q (some (vi (hI s3 9 0 (((x * (nI 160)) + y).toNatClampNeg)))) s3 ∧ s3.1 = σ.1))))))) ∧ (y = (-1) → (Q (some (vi (hI s3 10 0 x.toNatClampNeg))) s3 ∧ s3.1 = σ.1))))) ∧ (x4 = 0 → (Q (some (vi (-5))) s3 ∧ s3.1 = σ.1))))) ∧ (x2 = 0 → (Q (some (vi (-1))) s1 ∧ s1.1 = σ.1))))
  refine cal_i (e_isPage d σ x) rfl (brN (fun h => ?_) (fun h => ?_))
  · rw [if_pos h] at hq
    obtain ⟨p, hp, rfl⟩ := rngI_t (by omega) h
    obtain ⟨g1, g2, g3, g4⟩ := hs p hp
    rw [ix (by omega)] at hq ⊢
    unfold chaV at hq
    refine cal_i (e_hasSource d hp (hs p hp)) rfl (brN (fun g => ?_) (fun g => ?_))
    · rw [if_neg (of_decide_eq_true g)] at hq
      rw [g3]
      refine ⟨inb (by omega) (by omega), fun k => ?_, fun k => ?_⟩
      · rw [if_neg k] at hq
        refine ⟨fun k1 => ?_, fun k1 => ⟨fun k2 => ?_, fun k2 => ?_⟩⟩
        · rw [if_neg (fun w => Int32.not_lt.mpr (of_decide_eq_true w).1 k1)] at hq
          exact ⟨hq, rfl⟩
        · rw [if_neg (fun w => Int32.not_lt.mpr k2 (of_decide_eq_true w).2)] at hq
          exact ⟨hq, rfl⟩
        · have w : rngI y (txPg (P p)).length = true := decide_eq_true ⟨not_ltI k1, Int32.not_le.mp k2⟩
          rw [if_pos w] at hq
          obtain ⟨i, hi, rfl⟩ := rngI_t (by omega) w
          rw [ix (by omega)] at hq
          rw [mulN, addN, ix (by omega), Nat.mul_comm p 160, Tx_get g4 hi]
          exact ⟨inb (by omega) (by omega), hq, rfl⟩
      · rw [if_pos k] at hq
        exact ⟨hq, rfl⟩
    · have e : P p = [] := Classical.byContradiction fun q => of_decide_eq_false g q
      rw [if_pos e] at hq
      exact ⟨hq, rfl⟩
  · rw [if_neg (fun w => by rw [h] at w; cases w)] at hq
    exact ⟨hq, rfl⟩
theorem m_character (d : Nat) {σ : Hp} {P : Nat → List Line} (hs : ∀ p, p < 12 → SrcM σ p (P p)) (x y : Int32) : EI (d + 2) 143 [vr 233 0, vi x, vi y] σ (characterV P x y) σ := by
  refine EI_of mt_143 (Nat.le_of_ble_eq_true rfl) fun Q hq => ?_
  unfold characterV at hq
  refine wp_ok (cut := []) ma_143 rfl 25 _ _ _ _ ?_
  show CalI true (d + 1) 109 [vi x] σ σ.1 (fun x2 s1 => ((¬ x2 = 0 → CalI true (d + 1) 111 [vr 233 0, vi x] s1 σ.1 (fun x4 s3 => ((¬ x4 = 0 → ((¬ y = (-1) → CalI true (d + 1) 110 [vr 233 0, vi x] s3 σ.1 (fun x6 s5 => CalI true (d + 1) 108 [vi y, vi (nI 0), vi (x6 - (nI 1))] s5 σ.1 (fun x8 s7 => ((x8 = 0 → (Q (some (vi (-6))) s7 ∧ s7.1 = σ.1)) ∧ (¬ x8 = 0 → CalI true (d + 1) 112 [vr 233 0, vi x, vi y] s7 σ.1 (fun x10 s9 => (Q (some (vi x10)) s9 ∧ s9.1 = σ.1))))))) ∧ (y = (-1) → CalI true (d + 1) 110 [vr 233 0, vi x] s3 σ.1 (fun x12 s11 => (Q (some (vi x12)) s11 ∧ s11.1 = σ.1))))) ∧ (x4 = 0 → (Q (some (vi (-5))) s3 ∧ s3.1 = σ.1))))) ∧ (x2 = 0 → (Q (some (vi (-1))) s1 ∧ s1.1 = σ.1))))
  refine cal_i (m_isPage d σ x) rfl (brN (fun h => ?_) (fun h => ?_))
  · rw [if_pos h] at hq
    obtain ⟨p, hp, rfl⟩ := rngI_t (by omega) h
    obtain ⟨g1, g2, g3, g4⟩ := hs p hp
    rw [ix (by omega)] at hq
    unfold chaV at hq
    refine cal_i (m_has d hp (hs p hp)) rfl (brN (fun g => ?_) (fun g => ?_))
    · have gn := of_decide_eq_true g
      rw [if_neg gn] at hq g3
      have c := m_size (d + 1) σ hp
      rw [g3] at c
      have hl := (txPg_pos g1).mpr gn
      refine ⟨fun k => ?_, fun k => ?_⟩
      · rw [if_neg k] at hq
        refine cal_i c rfl ?_
        rw [subN (by omega)]
        refine cal_i (m_inI (d + 1) σ y (nI 0) (nI ((txPg (P p)).length - 1))) rfl ?_
        have e : decide (nI 0 ≤ y ∧ y ≤ nI ((txPg (P p)).length - 1)) = rngI y (txPg (P p)).length := by
          unfold rngI
          refine decide_eq_decide.mpr ?_
          have a : y ≤ nI ((txPg (P p)).length - 1) ↔ y < nI (txPg (P p)).length := by
            rw [fa_le, fa_lt, nI_toInt (by omega), nI_toInt (by omega)]
            omega
          rw [a]
          exact Iff.rfl
        rw [e]
        refine brI (fun w => ?_) (fun w => ?_)
        · rw [if_neg (fun v => by rw [w] at v; cases v)] at hq
          exact ⟨hq, rfl⟩
        · rw [if_pos w] at hq
          obtain ⟨i, hi, rfl⟩ := rngI_t (by omega) w
          rw [ix (by omega)] at hq
          have s := m_sign (d + 1) σ (p := p) (i := i) (by omega)
          have t := Tx_get g4 hi
          rw [Nat.add_zero] at t
          rw [t] at s
          exact cal_i s rfl ⟨hq, rfl⟩
      · rw [if_pos k] at hq
        exact cal_i c rfl ⟨hq, rfl⟩
    · have e : P p = [] := Classical.byContradiction fun q => of_decide_eq_false g q
      rw [if_pos e] at hq
      exact ⟨hq, rfl⟩
  · rw [if_neg (fun w => by rw [h] at w; cases w)] at hq
    exact ⟨hq, rfl⟩
