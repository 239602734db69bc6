/-! is it a page: the class and the model -/
def rngI (x : Int32) (n : Nat) : Bool := decide (0 ≤ x ∧ x < nI n)
theorem rngI_t {x : Int32} {n : Nat} (hn : n < 2147483648) (h : rngI x n = true) : ∃ k, k < n ∧ x = nI k := by
  obtain ⟨h1, h2⟩ := of_decide_eq_true h
  rw [fa_le] at h1
  rw [fa_lt, nI_toInt hn] at h2
  have h1 : (0 : Int) ≤ x.toInt := h1
  refine ⟨x.toInt.toNat, by omega, ?_⟩
  rw [fa_eq, nI_toInt (by omega)]
  omega
theorem rngI_n {k n : Nat} (hk : k < n) (hn : n < 2147483648) : rngI (nI k) n = true := decide_eq_true ⟨(leN (a := 0) (by omega) (by omega)).mpr (Nat.zero_le _), (ltN (by omega) hn).mpr hk⟩
theorem e_isPage (d : Nat) (σ : Hp) (x : Int32) : EI d 93 [vi x] σ (bI (rngI x 12)) σ := by
  refine EI_of mt_93 (Nat.le_of_ble_eq_true rfl) fun Q hq => ?_
  refine wp_ok (cut := []) ma_93 rfl 8 _ _ _ _ ?_
  show ((x < 0 → (((nI 0) = 0 ∨ (nI 0) = 1) ∧ (Q (some (vi (nI 0))) σ ∧ σ.1 = σ.1))) ∧ (¬ x < 0 → (((nI 12) ≤ x → (((nI 0) = 0 ∨ (nI 0) = 1) ∧ (Q (some (vi (nI 0))) σ ∧ σ.1 = σ.1))) ∧ (¬ (nI 12) ≤ x → (((nI 1) = 0 ∨ (nI 1) = 1) ∧ (Q (some (vi (nI 1))) σ ∧ σ.1 = σ.1))))))
  unfold rngI at hq
  refine ⟨fun h => ?_, fun h => ⟨fun g => ?_, fun g => ?_⟩⟩
  · rw [decide_eq_false (fun w => Int32.not_lt.mpr w.1 h)] at hq
    exact ⟨Or.inl rfl, hq, rfl⟩
  · rw [decide_eq_false (fun w => Int32.not_lt.mpr g w.2)] at hq
    exact ⟨Or.inl rfl, hq, rfl⟩
  · rw [decide_eq_true ⟨not_ltI h, Int32.not_le.mp g⟩] at hq
    exact ⟨Or.inr rfl, hq, rfl⟩
theorem m_isPage (d : Nat) (σ : Hp) (x : Int32) : EI (d + 1) 109 [vi x] σ (bI (rngI x 12)) σ := by
  refine EI_of mt_109 (Nat.le_of_ble_eq_true rfl) fun Q hq => ?_
  refine wp_ok (cut := []) ma_109 rfl 5 _ _ _ _ ?_
  show CalI true d 108 [vi x, vi (nI 0), vi (nI 11)] σ σ.1 (fun x2 s1 => ((x2 = 0 ∨ x2 = 1) ∧ (Q (some (vi x2)) s1 ∧ s1.1 = σ.1)))
  refine cal_i (m_inI d σ x (nI 0) (nI 11)) rfl ⟨bI_01 _, ?_, rfl⟩
  have e : decide (nI 0 ≤ x ∧ x ≤ nI 11) = rngI x 12 := by
    unfold rngI
    refine decide_eq_decide.mpr ?_
    have a : x ≤ nI 11 ↔ x < nI 12 := by
      rw [fa_le, fa_lt, nI_toInt (by decide), nI_toInt (by decide)]
      omega
    rw [a]
    exact Iff.rfl
  rw [e]
  exact hq
