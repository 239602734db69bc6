/-! character: the class and the model -/
def chaV (ls : List Line) (y : Int32) : Int32 := if ls = [] then (-5) else if y = (-1) then nI (txPg ls).length else if rngI y (txPg ls).length then nI ((txPg ls).getD y.toNatClampNeg 0) else (-6)
def characterV (P : Nat → List Line) (x y : Int32) : Int32 := if rngI x 12 then chaV (P x.toNatClampNeg) y else (-1)
theorem e_character (d : Nat) {σ : Hp} {P : Nat → List Line} (hs : ∀ p, p < 12 → SrcC σ 0 p (P p)) (x y : Int32) : EI (d + 1) 74 [vr 1 0, vi x, vi y] σ (characterV P x y) σ := by
  refine EI_of mt_74 (Nat.le_of_ble_eq_true rfl) fun Q hq => ?_
  unfold characterV at hq
  refine wp_ok (cut := []) ma_74 rfl 36 _ _ _ _ ?_
  show CalI true d 93 [vi x] σ σ.1 (fun x2 s1 => ((¬ x2 = 0 → CalI true d 60 [vr 8 0, vi x] s1 σ.1 (fun x4 s3 => ((¬ x4 = 0 → (vp_in x 12 ∧ ((¬ y = (-1) → ((y < 0 → (Q (some (vi (-6))) s3 ∧ s3.1 = σ.1)) ∧ (¬ y < 0 → (((hI s3 10 0 x.toNatClampNeg) ≤ y → (Q (some (vi (-6))) s3 ∧ s3.1 = σ.1)) ∧ (¬ (hI s3 10 0 x.toNatClampNeg) ≤ y → (vp_in ((x * (nI 160)) + y) 1920 ∧ (Q (some (vi (hI s3 9 0 (((x * (nI 160)) + y).toNatClampNeg)))) s3 ∧ s3.1 = σ.1))))))) ∧ (y = (-1) → (Q (some (vi (hI s3 10 0 x.toNatClampNeg))) s3 ∧ s3.1 = σ.1))))) ∧ (x4 = 0 → (Q (some (vi (-5))) s3 ∧ s3.1 = σ.1))))) ∧ (x2 = 0 → (Q (some (vi (-1))) s1 ∧ s1.1 = σ.1))))
  refine cal_i (e_isPage d σ x) rfl (brN (fun h => ?_) (fun h => ?_))
  · rw [if_pos h] at hq
    obtain ⟨p, hp, rfl⟩ := rngI_t (by omega) h
    obtain ⟨g1, g2, g3, g4⟩ := hs p hp
    rw [ix (by omega)] at hq ⊢
    unfold chaV at hq
    refine cal_i (e_hasSource d hp (hs p hp)) rfl (brN (fun g => ?_) (fun g => ?_))
    · rw [if_neg (of_decide_eq_true g)] at hq
      rw [g3]
      refine ⟨inb (by omega) (by omega), fun k => ?_, fun k => ?_⟩
      · rw [if_neg k] at hq
        refine ⟨fun k1 => ?_, fun k1 => ⟨fun k2 => ?_, fun k2 => ?_⟩⟩
        · rw [if_neg (fun w => Int32.not_lt.mpr (of_decide_eq_true w).1 k1)] at hq
          exact ⟨hq, rfl⟩
        · rw [if_neg (fun w => Int32.not_lt.mpr k2 (of_decide_eq_true w).2)] at hq
          exact ⟨hq, rfl⟩
        · have w : rngI y (txPg (P p)).length = true := decide_eq_true ⟨not_ltI k1, Int32.not_le.mp k2⟩
          rw [if_pos w] at hq
          obtain ⟨i, hi, rfl⟩ := rngI_t (by omega) w
          rw [ix (by omega)] at hq
          rw [mulN, addN, ix (by omega), Nat.mul_comm p 160, Tx_get g4 hi]
          exact ⟨inb (by omega) (by omega), hq, rfl⟩
      · rw [if_pos k] at hq
        exact ⟨hq, rfl⟩
    · have e : P p = [] := Classical.byContradiction fun q => of_decide_eq_false g q
      rw [if_pos e] at hq
      exact ⟨hq, rfl⟩
  · rw [if_neg (fun w => by rw [h] at w; cases w)] at hq
    exact ⟨hq, rfl⟩
