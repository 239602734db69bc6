/-! the model: areSameAnchors, areSamePlaces, for each pair of rows; anchors as texts -/
theorem row_lt {w : List Nat} (h : ∀ x ∈ w, x < 128) (k : Nat) : w.getD k 0 < 128 := getD_lt h (by omega) k
section
variable {σ : Hp} {w v : List Nat}
theorem m_sameA238_238 (d : Nat) {i j : Nat} (hi : i + 12 ≤ 28) (hj : j + 12 ≤ 28) (hw : w.length ≤ 11) (hv : v.length ≤ 11) (cw : ∀ x ∈ w, x < 128) (cv : ∀ x ∈ v, x < 128) (rw_ : RowA (hI σ 238 0) i w) (rv : RowA (hI σ 238 0) j v) : EI d 135 [vr 233 0, vr 238 0, vi (nI i), vr 238 0, vi (nI j)] σ (bI (decide (w = v))) σ := by
  refine EI_of mt_135 (Nat.le_of_ble_eq_true rfl) fun Q hq => ?_
  have loop : ∀ (m k : Nat) (b : Bool), k + m = w.length + 1 → (b = true ↔ ((0 < k → w.length = v.length) ∧ ∀ x, x + 1 < k → w.getD x 0 = v.getD x 0)) → Sat true d 135 σ.1 Q 6 [some (vr 233 0), some (vr 238 0), some (vi (nI i)), some (vr 238 0), some (vi (nI j)), some (vi (bI b)), some (vi (nI k))] [] σ := by
    intro m
    induction m with
    | zero =>
      intro k b hk hb
      have e : b = decide (w = v) := by
        by_cases c : w = v
        · rw [decide_eq_true c]
          exact hb.mpr (by rw [c]; exact ⟨fun _ => rfl, fun _ _ => rfl⟩)
        · rw [decide_eq_false c]
          cases b with
          | false => rfl
          | true =>
            have := hb.mp rfl
            exact absurd (getD_ext (this.1 (by omega)) fun x hx => this.2 x (by omega)) c
      rw [← e] at hq
      refine wp_ok (cut := [6]) ma_135 rfl 23 _ _ _ _ ?_
      show (vp_in (nI i) 28 ∧ (((hI σ 238 0 ((nI i).toNatClampNeg)) < (nI k) → (((bI b) = 0 ∨ (bI b) = 1) ∧ (Q (some (vi (bI b))) σ ∧ σ.1 = σ.1))) ∧ (¬ (hI σ 238 0 ((nI i).toNatClampNeg)) < (nI k) → (((bI b) = 0 → (((bI b) = 0 ∨ (bI b) = 1) ∧ (Q (some (vi (bI b))) σ ∧ σ.1 = σ.1))) ∧ (¬ (bI b) = 0 → (vp_in ((nI i) + (nI k)) 28 ∧ (vp_in ((nI j) + (nI k)) 28 ∧ ((¬ (hI σ 238 0 (((nI i) + (nI k)).toNatClampNeg)) = (hI σ 238 0 (((nI j) + (nI k)).toNatClampNeg)) → Sat true d 135 σ.1 Q 6 [some (vr 233 0), some (vr 238 0), some (vi (nI i)), some (vr 238 0), some (vi (nI j)), some (vi (nI 0)), some (vi ((nI k) + nI 1))] [] σ) ∧ ((hI σ 238 0 (((nI i) + (nI k)).toNatClampNeg)) = (hI σ 238 0 (((nI j) + (nI k)).toNatClampNeg)) → Sat true d 135 σ.1 Q 6 [some (vr 233 0), some (vr 238 0), some (vi (nI i)), some (vr 238 0), some (vi (nI j)), some (vi (nI 1)), some (vi ((nI k) + nI 1))] [] σ)))))))))
      rw [ix (by omega), rw_.1]
      refine ⟨inb (by omega) (by omega), br_lt (by omega) (by omega) (fun _ => ⟨?_, hq, rfl⟩) (fun g => by omega)⟩
      cases b
      · exact Or.inl rfl
      · exact Or.inr rfl
    | succ m ih =>
      intro k b hk hb
      have ew : hI σ 238 0 (i + k) = nI (if k = 0 then w.length else w.getD (k - 1) 0) := by
        by_cases c : k = 0
        · rw [if_pos c, c]; exact rw_.1
        · rw [if_neg c, show i + k = i + 1 + (k - 1) by omega]; exact rw_.2 _ (by omega)
      have ev : hI σ 238 0 (j + k) = nI (if k = 0 then v.length else v.getD (k - 1) 0) := by
        by_cases c : k = 0
        · rw [if_pos c, c]; exact rv.1
        · rw [if_neg c, show j + k = j + 1 + (k - 1) by omega]; exact rv.2 _ (by omega)
      have lw : (if k = 0 then w.length else w.getD (k - 1) 0) < 128 := by
        have := row_lt cw (k - 1)
        split <;> omega
      have lv : (if k = 0 then v.length else v.getD (k - 1) 0) < 128 := by
        have := row_lt cv (k - 1)
        split <;> omega
      refine wp_ok (cut := [6]) ma_135 rfl 23 _ _ _ _ ?_
      show (vp_in (nI i) 28 ∧ (((hI σ 238 0 ((nI i).toNatClampNeg)) < (nI k) → (((bI b) = 0 ∨ (bI b) = 1) ∧ (Q (some (vi (bI b))) σ ∧ σ.1 = σ.1))) ∧ (¬ (hI σ 238 0 ((nI i).toNatClampNeg)) < (nI k) → (((bI b) = 0 → (((bI b) = 0 ∨ (bI b) = 1) ∧ (Q (some (vi (bI b))) σ ∧ σ.1 = σ.1))) ∧ (¬ (bI b) = 0 → (vp_in ((nI i) + (nI k)) 28 ∧ (vp_in ((nI j) + (nI k)) 28 ∧ ((¬ (hI σ 238 0 (((nI i) + (nI k)).toNatClampNeg)) = (hI σ 238 0 (((nI j) + (nI k)).toNatClampNeg)) → Sat true d 135 σ.1 Q 6 [some (vr 233 0), some (vr 238 0), some (vi (nI i)), some (vr 238 0), some (vi (nI j)), some (vi (nI 0)), some (vi ((nI k) + nI 1))] [] σ) ∧ ((hI σ 238 0 (((nI i) + (nI k)).toNatClampNeg)) = (hI σ 238 0 (((nI j) + (nI k)).toNatClampNeg)) → Sat true d 135 σ.1 Q 6 [some (vr 233 0), some (vr 238 0), some (vi (nI i)), some (vr 238 0), some (vi (nI j)), some (vi (nI 1)), some (vi ((nI k) + nI 1))] [] σ)))))))))
      rw [ix (by omega), rw_.1, addN, addN, addN, ix (by omega), ix (by omega), ew, ev]
      refine ⟨inb (by omega) (by omega), br_lt (by omega) (by omega) (fun g => by omega) (fun _ => brI (fun q => ?_) (fun q => ⟨inb (by omega) (by omega), inb (by omega) (by omega), br_ne (by omega) (by omega) (fun g => ih (k + 1) false (by omega) ⟨fun q => (by cases q), fun z => absurd ?_ g⟩) (fun g => ih (k + 1) true (by omega) ⟨fun _ => ?_, fun _ => rfl⟩)⟩))⟩
      · have e : b = decide (w = v) := by
          rw [q]
          refine (decide_eq_false fun c => ?_).symm
          have := hb.mpr (by rw [c]; exact ⟨fun _ => rfl, fun _ _ => rfl⟩)
          rw [q] at this
          cases this
        rw [← e] at hq
        refine ⟨?_, hq, rfl⟩
        cases b
        · exact Or.inl rfl
        · exact Or.inr rfl
      · by_cases c : k = 0
        · rw [if_pos c, if_pos c]; exact z.1 (by omega)
        · rw [if_neg c, if_neg c]; exact z.2 (k - 1) (by omega)
      · have hb := hb.mp q
        by_cases c : k = 0
        · rw [if_pos c, if_pos c] at g
          exact ⟨fun _ => g, fun x hx => by omega⟩
        · rw [if_neg c, if_neg c] at g
          refine ⟨fun _ => hb.1 (by omega), fun x hx => ?_⟩
          by_cases e : x = k - 1
          · rw [e]; exact g
          · exact hb.2 x (by omega)
  refine wp_ok (cut := [6]) ma_135 rfl 4 _ _ _ _ ?_
  show Sat true d 135 σ.1 Q 6 [some (vr 233 0), some (vr 238 0), some (vi (nI i)), some (vr 238 0), some (vi (nI j)), some (vi (nI 1)), some (vi (nI 0))] [] σ
  exact loop (w.length + 1) 0 true (by omega) ⟨fun _ => ⟨fun q => by omega, fun x q => by omega⟩, fun _ => rfl⟩
theorem m_sameA238_235 (d : Nat) {i j : Nat} (hi : i + 12 ≤ 28) (hj : j + 12 ≤ 2830) (hw : w.length ≤ 11) (hv : v.length ≤ 11) (cw : ∀ x ∈ w, x < 128) (cv : ∀ x ∈ v, x < 128) (rw_ : RowA (hI σ 238 0) i w) (rv : RowA (hI σ 235 0) j v) : EI d 135 [vr 233 0, vr 238 0, vi (nI i), vr 235 0, vi (nI j)] σ (bI (decide (w = v))) σ := by
  refine EI_of mt_135 (Nat.le_of_ble_eq_true rfl) fun Q hq => ?_
  have loop : ∀ (m k : Nat) (b : Bool), k + m = w.length + 1 → (b = true ↔ ((0 < k → w.length = v.length) ∧ ∀ x, x + 1 < k → w.getD x 0 = v.getD x 0)) → Sat true d 135 σ.1 Q 6 [some (vr 233 0), some (vr 238 0), some (vi (nI i)), some (vr 235 0), some (vi (nI j)), some (vi (bI b)), some (vi (nI k))] [] σ := by
    intro m
    induction m with
    | zero =>
      intro k b hk hb
      have e : b = decide (w = v) := by
        by_cases c : w = v
        · rw [decide_eq_true c]
          exact hb.mpr (by rw [c]; exact ⟨fun _ => rfl, fun _ _ => rfl⟩)
        · rw [decide_eq_false c]
          cases b with
          | false => rfl
          | true =>
            have := hb.mp rfl
            exact absurd (getD_ext (this.1 (by omega)) fun x hx => this.2 x (by omega)) c
      rw [← e] at hq
      refine wp_ok (cut := [6]) ma_135 rfl 23 _ _ _ _ ?_
      show (vp_in (nI i) 28 ∧ (((hI σ 238 0 ((nI i).toNatClampNeg)) < (nI k) → (((bI b) = 0 ∨ (bI b) = 1) ∧ (Q (some (vi (bI b))) σ ∧ σ.1 = σ.1))) ∧ (¬ (hI σ 238 0 ((nI i).toNatClampNeg)) < (nI k) → (((bI b) = 0 → (((bI b) = 0 ∨ (bI b) = 1) ∧ (Q (some (vi (bI b))) σ ∧ σ.1 = σ.1))) ∧ (¬ (bI b) = 0 → (vp_in ((nI i) + (nI k)) 28 ∧ (vp_in ((nI j) + (nI k)) 2830 ∧ ((¬ (hI σ 238 0 (((nI i) + (nI k)).toNatClampNeg)) = (hI σ 235 0 (((nI j) + (nI k)).toNatClampNeg)) → Sat true d 135 σ.1 Q 6 [some (vr 233 0), some (vr 238 0), some (vi (nI i)), some (vr 235 0), some (vi (nI j)), some (vi (nI 0)), some (vi ((nI k) + nI 1))] [] σ) ∧ ((hI σ 238 0 (((nI i) + (nI k)).toNatClampNeg)) = (hI σ 235 0 (((nI j) + (nI k)).toNatClampNeg)) → Sat true d 135 σ.1 Q 6 [some (vr 233 0), some (vr 238 0), some (vi (nI i)), some (vr 235 0), some (vi (nI j)), some (vi (nI 1)), some (vi ((nI k) + nI 1))] [] σ)))))))))
      rw [ix (by omega), rw_.1]
      refine ⟨inb (by omega) (by omega), br_lt (by omega) (by omega) (fun _ => ⟨?_, hq, rfl⟩) (fun g => by omega)⟩
      cases b
      · exact Or.inl rfl
      · exact Or.inr rfl
    | succ m ih =>
      intro k b hk hb
      have ew : hI σ 238 0 (i + k) = nI (if k = 0 then w.length else w.getD (k - 1) 0) := by
        by_cases c : k = 0
        · rw [if_pos c, c]; exact rw_.1
        · rw [if_neg c, show i + k = i + 1 + (k - 1) by omega]; exact rw_.2 _ (by omega)
      have ev : hI σ 235 0 (j + k) = nI (if k = 0 then v.length else v.getD (k - 1) 0) := by
        by_cases c : k = 0
        · rw [if_pos c, c]; exact rv.1
        · rw [if_neg c, show j + k = j + 1 + (k - 1) by omega]; exact rv.2 _ (by omega)
      have lw : (if k = 0 then w.length else w.getD (k - 1) 0) < 128 := by
        have := row_lt cw (k - 1)
        split <;> omega
      have lv : (if k = 0 then v.length else v.getD (k - 1) 0) < 128 := by
        have := row_lt cv (k - 1)
        split <;> omega
      refine wp_ok (cut := [6]) ma_135 rfl 23 _ _ _ _ ?_
      show (vp_in (nI i) 28 ∧ (((hI σ 238 0 ((nI i).toNatClampNeg)) < (nI k) → (((bI b) = 0 ∨ (bI b) = 1) ∧ (Q (some (vi (bI b))) σ ∧ σ.1 = σ.1))) ∧ (¬ (hI σ 238 0 ((nI i).toNatClampNeg)) < (nI k) → (((bI b) = 0 → (((bI b) = 0 ∨ (bI b) = 1) ∧ (Q (some (vi (bI b))) σ ∧ σ.1 = σ.1))) ∧ (¬ (bI b) = 0 → (vp_in ((nI i) + (nI k)) 28 ∧ (vp_in ((nI j) + (nI k)) 2830 ∧ ((¬ (hI σ 238 0 (((nI i) + (nI k)).toNatClampNeg)) = (hI σ 235 0 (((nI j) + (nI k)).toNatClampNeg)) → Sat true d 135 σ.1 Q 6 [some (vr 233 0), some (vr 238 0), some (vi (nI i)), some (vr 235 0), some (vi (nI j)), some (vi (nI 0)), some (vi ((nI k) + nI 1))] [] σ) ∧ ((hI σ 238 0 (((nI i) + (nI k)).toNatClampNeg)) = (hI σ 235 0 (((nI j) + (nI k)).toNatClampNeg)) → Sat true d 135 σ.1 Q 6 [some (vr 233 0), some (vr 238 0), some (vi (nI i)), some (vr 235 0), some (vi (nI j)), some (vi (nI 1)), some (vi ((nI k) + nI 1))] [] σ)))))))))
      rw [ix (by omega), rw_.1, addN, addN, addN, ix (by omega), ix (by omega), ew, ev]
      refine ⟨inb (by omega) (by omega), br_lt (by omega) (by omega) (fun g => by omega) (fun _ => brI (fun q => ?_) (fun q => ⟨inb (by omega) (by omega), inb (by omega) (by omega), br_ne (by omega) (by omega) (fun g => ih (k + 1) false (by omega) ⟨fun q => (by cases q), fun z => absurd ?_ g⟩) (fun g => ih (k + 1) true (by omega) ⟨fun _ => ?_, fun _ => rfl⟩)⟩))⟩
      · have e : b = decide (w = v) := by
          rw [q]
          refine (decide_eq_false fun c => ?_).symm
          have := hb.mpr (by rw [c]; exact ⟨fun _ => rfl, fun _ _ => rfl⟩)
          rw [q] at this
          cases this
        rw [← e] at hq
        refine ⟨?_, hq, rfl⟩
        cases b
        · exact Or.inl rfl
        · exact Or.inr rfl
      · by_cases c : k = 0
        · rw [if_pos c, if_pos c]; exact z.1 (by omega)
        · rw [if_neg c, if_neg c]; exact z.2 (k - 1) (by omega)
      · have hb := hb.mp q
        by_cases c : k = 0
        · rw [if_pos c, if_pos c] at g
          exact ⟨fun _ => g, fun x hx => by omega⟩
        · rw [if_neg c, if_neg c] at g
          refine ⟨fun _ => hb.1 (by omega), fun x hx => ?_⟩
          by_cases e : x = k - 1
          · rw [e]; exact g
          · exact hb.2 x (by omega)
  refine wp_ok (cut := [6]) ma_135 rfl 4 _ _ _ _ ?_
  show Sat true d 135 σ.1 Q 6 [some (vr 233 0), some (vr 238 0), some (vi (nI i)), some (vr 235 0), some (vi (nI j)), some (vi (nI 1)), some (vi (nI 0))] [] σ
  exact loop (w.length + 1) 0 true (by omega) ⟨fun _ => ⟨fun q => by omega, fun x q => by omega⟩, fun _ => rfl⟩
theorem m_sameA261_261 (d : Nat) {i j : Nat} (hi : i + 12 ≤ 5600) (hj : j + 12 ≤ 5600) (hw : w.length ≤ 11) (hv : v.length ≤ 11) (cw : ∀ x ∈ w, x < 128) (cv : ∀ x ∈ v, x < 128) (rw_ : RowA (hI σ 261 0) i w) (rv : RowA (hI σ 261 0) j v) : EI d 135 [vr 233 0, vr 261 0, vi (nI i), vr 261 0, vi (nI j)] σ (bI (decide (w = v))) σ := by
  refine EI_of mt_135 (Nat.le_of_ble_eq_true rfl) fun Q hq => ?_
  have loop : ∀ (m k : Nat) (b : Bool), k + m = w.length + 1 → (b = true ↔ ((0 < k → w.length = v.length) ∧ ∀ x, x + 1 < k → w.getD x 0 = v.getD x 0)) → Sat true d 135 σ.1 Q 6 [some (vr 233 0), some (vr 261 0), some (vi (nI i)), some (vr 261 0), some (vi (nI j)), some (vi (bI b)), some (vi (nI k))] [] σ := by
    intro m
    induction m with
    | zero =>
      intro k b hk hb
      have e : b = decide (w = v) := by
        by_cases c : w = v
        · rw [decide_eq_true c]
          exact hb.mpr (by rw [c]; exact ⟨fun _ => rfl, fun _ _ => rfl⟩)
        · rw [decide_eq_false c]
          cases b with
          | false => rfl
          | true =>
            have := hb.mp rfl
            exact absurd (getD_ext (this.1 (by omega)) fun x hx => this.2 x (by omega)) c
      rw [← e] at hq
      refine wp_ok (cut := [6]) ma_135 rfl 23 _ _ _ _ ?_
      show (vp_in (nI i) 5600 ∧ (((hI σ 261 0 ((nI i).toNatClampNeg)) < (nI k) → (((bI b) = 0 ∨ (bI b) = 1) ∧ (Q (some (vi (bI b))) σ ∧ σ.1 = σ.1))) ∧ (¬ (hI σ 261 0 ((nI i).toNatClampNeg)) < (nI k) → (((bI b) = 0 → (((bI b) = 0 ∨ (bI b) = 1) ∧ (Q (some (vi (bI b))) σ ∧ σ.1 = σ.1))) ∧ (¬ (bI b) = 0 → (vp_in ((nI i) + (nI k)) 5600 ∧ (vp_in ((nI j) + (nI k)) 5600 ∧ ((¬ (hI σ 261 0 (((nI i) + (nI k)).toNatClampNeg)) = (hI σ 261 0 (((nI j) + (nI k)).toNatClampNeg)) → Sat true d 135 σ.1 Q 6 [some (vr 233 0), some (vr 261 0), some (vi (nI i)), some (vr 261 0), some (vi (nI j)), some (vi (nI 0)), some (vi ((nI k) + nI 1))] [] σ) ∧ ((hI σ 261 0 (((nI i) + (nI k)).toNatClampNeg)) = (hI σ 261 0 (((nI j) + (nI k)).toNatClampNeg)) → Sat true d 135 σ.1 Q 6 [some (vr 233 0), some (vr 261 0), some (vi (nI i)), some (vr 261 0), some (vi (nI j)), some (vi (nI 1)), some (vi ((nI k) + nI 1))] [] σ)))))))))
      rw [ix (by omega), rw_.1]
      refine ⟨inb (by omega) (by omega), br_lt (by omega) (by omega) (fun _ => ⟨?_, hq, rfl⟩) (fun g => by omega)⟩
      cases b
      · exact Or.inl rfl
      · exact Or.inr rfl
    | succ m ih =>
      intro k b hk hb
      have ew : hI σ 261 0 (i + k) = nI (if k = 0 then w.length else w.getD (k - 1) 0) := by
        by_cases c : k = 0
        · rw [if_pos c, c]; exact rw_.1
        · rw [if_neg c, show i + k = i + 1 + (k - 1) by omega]; exact rw_.2 _ (by omega)
      have ev : hI σ 261 0 (j + k) = nI (if k = 0 then v.length else v.getD (k - 1) 0) := by
        by_cases c : k = 0
        · rw [if_pos c, c]; exact rv.1
        · rw [if_neg c, show j + k = j + 1 + (k - 1) by omega]; exact rv.2 _ (by omega)
      have lw : (if k = 0 then w.length else w.getD (k - 1) 0) < 128 := by
        have := row_lt cw (k - 1)
        split <;> omega
      have lv : (if k = 0 then v.length else v.getD (k - 1) 0) < 128 := by
        have := row_lt cv (k - 1)
        split <;> omega
      refine wp_ok (cut := [6]) ma_135 rfl 23 _ _ _ _ ?_
      show (vp_in (nI i) 5600 ∧ (((hI σ 261 0 ((nI i).toNatClampNeg)) < (nI k) → (((bI b) = 0 ∨ (bI b) = 1) ∧ (Q (some (vi (bI b))) σ ∧ σ.1 = σ.1))) ∧ (¬ (hI σ 261 0 ((nI i).toNatClampNeg)) < (nI k) → (((bI b) = 0 → (((bI b) = 0 ∨ (bI b) = 1) ∧ (Q (some (vi (bI b))) σ ∧ σ.1 = σ.1))) ∧ (¬ (bI b) = 0 → (vp_in ((nI i) + (nI k)) 5600 ∧ (vp_in ((nI j) + (nI k)) 5600 ∧ ((¬ (hI σ 261 0 (((nI i) + (nI k)).toNatClampNeg)) = (hI σ 261 0 (((nI j) + (nI k)).toNatClampNeg)) → Sat true d 135 σ.1 Q 6 [some (vr 233 0), some (vr 261 0), some (vi (nI i)), some (vr 261 0), some (vi (nI j)), some (vi (nI 0)), some (vi ((nI k) + nI 1))] [] σ) ∧ ((hI σ 261 0 (((nI i) + (nI k)).toNatClampNeg)) = (hI σ 261 0 (((nI j) + (nI k)).toNatClampNeg)) → Sat true d 135 σ.1 Q 6 [some (vr 233 0), some (vr 261 0), some (vi (nI i)), some (vr 261 0), some (vi (nI j)), some (vi (nI 1)), some (vi ((nI k) + nI 1))] [] σ)))))))))
      rw [ix (by omega), rw_.1, addN, addN, addN, ix (by omega), ix (by omega), ew, ev]
      refine ⟨inb (by omega) (by omega), br_lt (by omega) (by omega) (fun g => by omega) (fun _ => brI (fun q => ?_) (fun q => ⟨inb (by omega) (by omega), inb (by omega) (by omega), br_ne (by omega) (by omega) (fun g => ih (k + 1) false (by omega) ⟨fun q => (by cases q), fun z => absurd ?_ g⟩) (fun g => ih (k + 1) true (by omega) ⟨fun _ => ?_, fun _ => rfl⟩)⟩))⟩
      · have e : b = decide (w = v) := by
          rw [q]
          refine (decide_eq_false fun c => ?_).symm
          have := hb.mpr (by rw [c]; exact ⟨fun _ => rfl, fun _ _ => rfl⟩)
          rw [q] at this
          cases this
        rw [← e] at hq
        refine ⟨?_, hq, rfl⟩
        cases b
        · exact Or.inl rfl
        · exact Or.inr rfl
      · by_cases c : k = 0
        · rw [if_pos c, if_pos c]; exact z.1 (by omega)
        · rw [if_neg c, if_neg c]; exact z.2 (k - 1) (by omega)
      · have hb := hb.mp q
        by_cases c : k = 0
        · rw [if_pos c, if_pos c] at g
          exact ⟨fun _ => g, fun x hx => by omega⟩
        · rw [if_neg c, if_neg c] at g
          refine ⟨fun _ => hb.1 (by omega), fun x hx => ?_⟩
          by_cases e : x = k - 1
          · rw [e]; exact g
          · exact hb.2 x (by omega)
  refine wp_ok (cut := [6]) ma_135 rfl 4 _ _ _ _ ?_
  show Sat true d 135 σ.1 Q 6 [some (vr 233 0), some (vr 261 0), some (vi (nI i)), some (vr 261 0), some (vi (nI j)), some (vi (nI 1)), some (vi (nI 0))] [] σ
  exact loop (w.length + 1) 0 true (by omega) ⟨fun _ => ⟨fun q => by omega, fun x q => by omega⟩, fun _ => rfl⟩
theorem m_sameA235_261 (d : Nat) {i j : Nat} (hi : i + 12 ≤ 2830) (hj : j + 12 ≤ 5600) (hw : w.length ≤ 11) (hv : v.length ≤ 11) (cw : ∀ x ∈ w, x < 128) (cv : ∀ x ∈ v, x < 128) (rw_ : RowA (hI σ 235 0) i w) (rv : RowA (hI σ 261 0) j v) : EI d 135 [vr 233 0, vr 235 0, vi (nI i), vr 261 0, vi (nI j)] σ (bI (decide (w = v))) σ := by
  refine EI_of mt_135 (Nat.le_of_ble_eq_true rfl) fun Q hq => ?_
  have loop : ∀ (m k : Nat) (b : Bool), k + m = w.length + 1 → (b = true ↔ ((0 < k → w.length = v.length) ∧ ∀ x, x + 1 < k → w.getD x 0 = v.getD x 0)) → Sat true d 135 σ.1 Q 6 [some (vr 233 0), some (vr 235 0), some (vi (nI i)), some (vr 261 0), some (vi (nI j)), some (vi (bI b)), some (vi (nI k))] [] σ := by
    intro m
    induction m with
    | zero =>
      intro k b hk hb
      have e : b = decide (w = v) := by
        by_cases c : w = v
        · rw [decide_eq_true c]
          exact hb.mpr (by rw [c]; exact ⟨fun _ => rfl, fun _ _ => rfl⟩)
        · rw [decide_eq_false c]
          cases b with
          | false => rfl
          | true =>
            have := hb.mp rfl
            exact absurd (getD_ext (this.1 (by omega)) fun x hx => this.2 x (by omega)) c
      rw [← e] at hq
      refine wp_ok (cut := [6]) ma_135 rfl 23 _ _ _ _ ?_
      show (vp_in (nI i) 2830 ∧ (((hI σ 235 0 ((nI i).toNatClampNeg)) < (nI k) → (((bI b) = 0 ∨ (bI b) = 1) ∧ (Q (some (vi (bI b))) σ ∧ σ.1 = σ.1))) ∧ (¬ (hI σ 235 0 ((nI i).toNatClampNeg)) < (nI k) → (((bI b) = 0 → (((bI b) = 0 ∨ (bI b) = 1) ∧ (Q (some (vi (bI b))) σ ∧ σ.1 = σ.1))) ∧ (¬ (bI b) = 0 → (vp_in ((nI i) + (nI k)) 2830 ∧ (vp_in ((nI j) + (nI k)) 5600 ∧ ((¬ (hI σ 235 0 (((nI i) + (nI k)).toNatClampNeg)) = (hI σ 261 0 (((nI j) + (nI k)).toNatClampNeg)) → Sat true d 135 σ.1 Q 6 [some (vr 233 0), some (vr 235 0), some (vi (nI i)), some (vr 261 0), some (vi (nI j)), some (vi (nI 0)), some (vi ((nI k) + nI 1))] [] σ) ∧ ((hI σ 235 0 (((nI i) + (nI k)).toNatClampNeg)) = (hI σ 261 0 (((nI j) + (nI k)).toNatClampNeg)) → Sat true d 135 σ.1 Q 6 [some (vr 233 0), some (vr 235 0), some (vi (nI i)), some (vr 261 0), some (vi (nI j)), some (vi (nI 1)), some (vi ((nI k) + nI 1))] [] σ)))))))))
      rw [ix (by omega), rw_.1]
      refine ⟨inb (by omega) (by omega), br_lt (by omega) (by omega) (fun _ => ⟨?_, hq, rfl⟩) (fun g => by omega)⟩
      cases b
      · exact Or.inl rfl
      · exact Or.inr rfl
    | succ m ih =>
      intro k b hk hb
      have ew : hI σ 235 0 (i + k) = nI (if k = 0 then w.length else w.getD (k - 1) 0) := by
        by_cases c : k = 0
        · rw [if_pos c, c]; exact rw_.1
        · rw [if_neg c, show i + k = i + 1 + (k - 1) by omega]; exact rw_.2 _ (by omega)
      have ev : hI σ 261 0 (j + k) = nI (if k = 0 then v.length else v.getD (k - 1) 0) := by
        by_cases c : k = 0
        · rw [if_pos c, c]; exact rv.1
        · rw [if_neg c, show j + k = j + 1 + (k - 1) by omega]; exact rv.2 _ (by omega)
      have lw : (if k = 0 then w.length else w.getD (k - 1) 0) < 128 := by
        have := row_lt cw (k - 1)
        split <;> omega
      have lv : (if k = 0 then v.length else v.getD (k - 1) 0) < 128 := by
        have := row_lt cv (k - 1)
        split <;> omega
      refine wp_ok (cut := [6]) ma_135 rfl 23 _ _ _ _ ?_
      show (vp_in (nI i) 2830 ∧ (((hI σ 235 0 ((nI i).toNatClampNeg)) < (nI k) → (((bI b) = 0 ∨ (bI b) = 1) ∧ (Q (some (vi (bI b))) σ ∧ σ.1 = σ.1))) ∧ (¬ (hI σ 235 0 ((nI i).toNatClampNeg)) < (nI k) → (((bI b) = 0 → (((bI b) = 0 ∨ (bI b) = 1) ∧ (Q (some (vi (bI b))) σ ∧ σ.1 = σ.1))) ∧ (¬ (bI b) = 0 → (vp_in ((nI i) + (nI k)) 2830 ∧ (vp_in ((nI j) + (nI k)) 5600 ∧ ((¬ (hI σ 235 0 (((nI i) + (nI k)).toNatClampNeg)) = (hI σ 261 0 (((nI j) + (nI k)).toNatClampNeg)) → Sat true d 135 σ.1 Q 6 [some (vr 233 0), some (vr 235 0), some (vi (nI i)), some (vr 261 0), some (vi (nI j)), some (vi (nI 0)), some (vi ((nI k) + nI 1))] [] σ) ∧ ((hI σ 235 0 (((nI i) + (nI k)).toNatClampNeg)) = (hI σ 261 0 (((nI j) + (nI k)).toNatClampNeg)) → Sat true d 135 σ.1 Q 6 [some (vr 233 0), some (vr 235 0), some (vi (nI i)), some (vr 261 0), some (vi (nI j)), some (vi (nI 1)), some (vi ((nI k) + nI 1))] [] σ)))))))))
      rw [ix (by omega), rw_.1, addN, addN, addN, ix (by omega), ix (by omega), ew, ev]
      refine ⟨inb (by omega) (by omega), br_lt (by omega) (by omega) (fun g => by omega) (fun _ => brI (fun q => ?_) (fun q => ⟨inb (by omega) (by omega), inb (by omega) (by omega), br_ne (by omega) (by omega) (fun g => ih (k + 1) false (by omega) ⟨fun q => (by cases q), fun z => absurd ?_ g⟩) (fun g => ih (k + 1) true (by omega) ⟨fun _ => ?_, fun _ => rfl⟩)⟩))⟩
      · have e : b = decide (w = v) := by
          rw [q]
          refine (decide_eq_false fun c => ?_).symm
          have := hb.mpr (by rw [c]; exact ⟨fun _ => rfl, fun _ _ => rfl⟩)
          rw [q] at this
          cases this
        rw [← e] at hq
        refine ⟨?_, hq, rfl⟩
        cases b
        · exact Or.inl rfl
        · exact Or.inr rfl
      · by_cases c : k = 0
        · rw [if_pos c, if_pos c]; exact z.1 (by omega)
        · rw [if_neg c, if_neg c]; exact z.2 (k - 1) (by omega)
      · have hb := hb.mp q
        by_cases c : k = 0
        · rw [if_pos c, if_pos c] at g
          exact ⟨fun _ => g, fun x hx => by omega⟩
        · rw [if_neg c, if_neg c] at g
          refine ⟨fun _ => hb.1 (by omega), fun x hx => ?_⟩
          by_cases e : x = k - 1
          · rw [e]; exact g
          · exact hb.2 x (by omega)
  refine wp_ok (cut := [6]) ma_135 rfl 4 _ _ _ _ ?_
  show Sat true d 135 σ.1 Q 6 [some (vr 233 0), some (vr 235 0), some (vi (nI i)), some (vr 261 0), some (vi (nI j)), some (vi (nI 1)), some (vi (nI 0))] [] σ
  exact loop (w.length + 1) 0 true (by omega) ⟨fun _ => ⟨fun q => by omega, fun x q => by omega⟩, fun _ => rfl⟩
theorem m_sameA235_245 (d : Nat) {i j : Nat} (hi : i + 12 ≤ 2830) (hj : j + 12 ≤ 20448) (hw : w.length ≤ 11) (hv : v.length ≤ 11) (cw : ∀ x ∈ w, x < 128) (cv : ∀ x ∈ v, x < 128) (rw_ : RowA (hI σ 235 0) i w) (rv : RowA (hI σ 245 0) j v) : EI d 135 [vr 233 0, vr 235 0, vi (nI i), vr 245 0, vi (nI j)] σ (bI (decide (w = v))) σ := by
  refine EI_of mt_135 (Nat.le_of_ble_eq_true rfl) fun Q hq => ?_
  have loop : ∀ (m k : Nat) (b : Bool), k + m = w.length + 1 → (b = true ↔ ((0 < k → w.length = v.length) ∧ ∀ x, x + 1 < k → w.getD x 0 = v.getD x 0)) → Sat true d 135 σ.1 Q 6 [some (vr 233 0), some (vr 235 0), some (vi (nI i)), some (vr 245 0), some (vi (nI j)), some (vi (bI b)), some (vi (nI k))] [] σ := by
    intro m
    induction m with
    | zero =>
      intro k b hk hb
      have e : b = decide (w = v) := by
        by_cases c : w = v
        · rw [decide_eq_true c]
          exact hb.mpr (by rw [c]; exact ⟨fun _ => rfl, fun _ _ => rfl⟩)
        · rw [decide_eq_false c]
          cases b with
          | false => rfl
          | true =>
            have := hb.mp rfl
            exact absurd (getD_ext (this.1 (by omega)) fun x hx => this.2 x (by omega)) c
      rw [← e] at hq
      refine wp_ok (cut := [6]) ma_135 rfl 23 _ _ _ _ ?_
      show (vp_in (nI i) 2830 ∧ (((hI σ 235 0 ((nI i).toNatClampNeg)) < (nI k) → (((bI b) = 0 ∨ (bI b) = 1) ∧ (Q (some (vi (bI b))) σ ∧ σ.1 = σ.1))) ∧ (¬ (hI σ 235 0 ((nI i).toNatClampNeg)) < (nI k) → (((bI b) = 0 → (((bI b) = 0 ∨ (bI b) = 1) ∧ (Q (some (vi (bI b))) σ ∧ σ.1 = σ.1))) ∧ (¬ (bI b) = 0 → (vp_in ((nI i) + (nI k)) 2830 ∧ (vp_in ((nI j) + (nI k)) 20448 ∧ ((¬ (hI σ 235 0 (((nI i) + (nI k)).toNatClampNeg)) = (hI σ 245 0 (((nI j) + (nI k)).toNatClampNeg)) → Sat true d 135 σ.1 Q 6 [some (vr 233 0), some (vr 235 0), some (vi (nI i)), some (vr 245 0), some (vi (nI j)), some (vi (nI 0)), some (vi ((nI k) + nI 1))] [] σ) ∧ ((hI σ 235 0 (((nI i) + (nI k)).toNatClampNeg)) = (hI σ 245 0 (((nI j) + (nI k)).toNatClampNeg)) → Sat true d 135 σ.1 Q 6 [some (vr 233 0), some (vr 235 0), some (vi (nI i)), some (vr 245 0), some (vi (nI j)), some (vi (nI 1)), some (vi ((nI k) + nI 1))] [] σ)))))))))
      rw [ix (by omega), rw_.1]
      refine ⟨inb (by omega) (by omega), br_lt (by omega) (by omega) (fun _ => ⟨?_, hq, rfl⟩) (fun g => by omega)⟩
      cases b
      · exact Or.inl rfl
      · exact Or.inr rfl
    | succ m ih =>
      intro k b hk hb
      have ew : hI σ 235 0 (i + k) = nI (if k = 0 then w.length else w.getD (k - 1) 0) := by
        by_cases c : k = 0
        · rw [if_pos c, c]; exact rw_.1
        · rw [if_neg c, show i + k = i + 1 + (k - 1) by omega]; exact rw_.2 _ (by omega)
      have ev : hI σ 245 0 (j + k) = nI (if k = 0 then v.length else v.getD (k - 1) 0) := by
        by_cases c : k = 0
        · rw [if_pos c, c]; exact rv.1
        · rw [if_neg c, show j + k = j + 1 + (k - 1) by omega]; exact rv.2 _ (by omega)
      have lw : (if k = 0 then w.length else w.getD (k - 1) 0) < 128 := by
        have := row_lt cw (k - 1)
        split <;> omega
      have lv : (if k = 0 then v.length else v.getD (k - 1) 0) < 128 := by
        have := row_lt cv (k - 1)
        split <;> omega
      refine wp_ok (cut := [6]) ma_135 rfl 23 _ _ _ _ ?_
      show (vp_in (nI i) 2830 ∧ (((hI σ 235 0 ((nI i).toNatClampNeg)) < (nI k) → (((bI b) = 0 ∨ (bI b) = 1) ∧ (Q (some (vi (bI b))) σ ∧ σ.1 = σ.1))) ∧ (¬ (hI σ 235 0 ((nI i).toNatClampNeg)) < (nI k) → (((bI b) = 0 → (((bI b) = 0 ∨ (bI b) = 1) ∧ (Q (some (vi (bI b))) σ ∧ σ.1 = σ.1))) ∧ (¬ (bI b) = 0 → (vp_in ((nI i) + (nI k)) 2830 ∧ (vp_in ((nI j) + (nI k)) 20448 ∧ ((¬ (hI σ 235 0 (((nI i) + (nI k)).toNatClampNeg)) = (hI σ 245 0 (((nI j) + (nI k)).toNatClampNeg)) → Sat true d 135 σ.1 Q 6 [some (vr 233 0), some (vr 235 0), some (vi (nI i)), some (vr 245 0), some (vi (nI j)), some (vi (nI 0)), some (vi ((nI k) + nI 1))] [] σ) ∧ ((hI σ 235 0 (((nI i) + (nI k)).toNatClampNeg)) = (hI σ 245 0 (((nI j) + (nI k)).toNatClampNeg)) → Sat true d 135 σ.1 Q 6 [some (vr 233 0), some (vr 235 0), some (vi (nI i)), some (vr 245 0), some (vi (nI j)), some (vi (nI 1)), some (vi ((nI k) + nI 1))] [] σ)))))))))
      rw [ix (by omega), rw_.1, addN, addN, addN, ix (by omega), ix (by omega), ew, ev]
      refine ⟨inb (by omega) (by omega), br_lt (by omega) (by omega) (fun g => by omega) (fun _ => brI (fun q => ?_) (fun q => ⟨inb (by omega) (by omega), inb (by omega) (by omega), br_ne (by omega) (by omega) (fun g => ih (k + 1) false (by omega) ⟨fun q => (by cases q), fun z => absurd ?_ g⟩) (fun g => ih (k + 1) true (by omega) ⟨fun _ => ?_, fun _ => rfl⟩)⟩))⟩
      · have e : b = decide (w = v) := by
          rw [q]
          refine (decide_eq_false fun c => ?_).symm
          have := hb.mpr (by rw [c]; exact ⟨fun _ => rfl, fun _ _ => rfl⟩)
          rw [q] at this
          cases this
        rw [← e] at hq
        refine ⟨?_, hq, rfl⟩
        cases b
        · exact Or.inl rfl
        · exact Or.inr rfl
      · by_cases c : k = 0
        · rw [if_pos c, if_pos c]; exact z.1 (by omega)
        · rw [if_neg c, if_neg c]; exact z.2 (k - 1) (by omega)
      · have hb := hb.mp q
        by_cases c : k = 0
        · rw [if_pos c, if_pos c] at g
          exact ⟨fun _ => g, fun x hx => by omega⟩
        · rw [if_neg c, if_neg c] at g
          refine ⟨fun _ => hb.1 (by omega), fun x hx => ?_⟩
          by_cases e : x = k - 1
          · rw [e]; exact g
          · exact hb.2 x (by omega)
  refine wp_ok (cut := [6]) ma_135 rfl 4 _ _ _ _ ?_
  show Sat true d 135 σ.1 Q 6 [some (vr 233 0), some (vr 235 0), some (vi (nI i)), some (vr 245 0), some (vi (nI j)), some (vi (nI 1)), some (vi (nI 0))] [] σ
  exact loop (w.length + 1) 0 true (by omega) ⟨fun _ => ⟨fun q => by omega, fun x q => by omega⟩, fun _ => rfl⟩
theorem m_sameA245_261 (d : Nat) {i j : Nat} (hi : i + 12 ≤ 20448) (hj : j + 12 ≤ 5600) (hw : w.length ≤ 11) (hv : v.length ≤ 11) (cw : ∀ x ∈ w, x < 128) (cv : ∀ x ∈ v, x < 128) (rw_ : RowA (hI σ 245 0) i w) (rv : RowA (hI σ 261 0) j v) : EI d 135 [vr 233 0, vr 245 0, vi (nI i), vr 261 0, vi (nI j)] σ (bI (decide (w = v))) σ := by
  refine EI_of mt_135 (Nat.le_of_ble_eq_true rfl) fun Q hq => ?_
  have loop : ∀ (m k : Nat) (b : Bool), k + m = w.length + 1 → (b = true ↔ ((0 < k → w.length = v.length) ∧ ∀ x, x + 1 < k → w.getD x 0 = v.getD x 0)) → Sat true d 135 σ.1 Q 6 [some (vr 233 0), some (vr 245 0), some (vi (nI i)), some (vr 261 0), some (vi (nI j)), some (vi (bI b)), some (vi (nI k))] [] σ := by
    intro m
    induction m with
    | zero =>
      intro k b hk hb
      have e : b = decide (w = v) := by
        by_cases c : w = v
        · rw [decide_eq_true c]
          exact hb.mpr (by rw [c]; exact ⟨fun _ => rfl, fun _ _ => rfl⟩)
        · rw [decide_eq_false c]
          cases b with
          | false => rfl
          | true =>
            have := hb.mp rfl
            exact absurd (getD_ext (this.1 (by omega)) fun x hx => this.2 x (by omega)) c
      rw [← e] at hq
      refine wp_ok (cut := [6]) ma_135 rfl 23 _ _ _ _ ?_
      show (vp_in (nI i) 20448 ∧ (((hI σ 245 0 ((nI i).toNatClampNeg)) < (nI k) → (((bI b) = 0 ∨ (bI b) = 1) ∧ (Q (some (vi (bI b))) σ ∧ σ.1 = σ.1))) ∧ (¬ (hI σ 245 0 ((nI i).toNatClampNeg)) < (nI k) → (((bI b) = 0 → (((bI b) = 0 ∨ (bI b) = 1) ∧ (Q (some (vi (bI b))) σ ∧ σ.1 = σ.1))) ∧ (¬ (bI b) = 0 → (vp_in ((nI i) + (nI k)) 20448 ∧ (vp_in ((nI j) + (nI k)) 5600 ∧ ((¬ (hI σ 245 0 (((nI i) + (nI k)).toNatClampNeg)) = (hI σ 261 0 (((nI j) + (nI k)).toNatClampNeg)) → Sat true d 135 σ.1 Q 6 [some (vr 233 0), some (vr 245 0), some (vi (nI i)), some (vr 261 0), some (vi (nI j)), some (vi (nI 0)), some (vi ((nI k) + nI 1))] [] σ) ∧ ((hI σ 245 0 (((nI i) + (nI k)).toNatClampNeg)) = (hI σ 261 0 (((nI j) + (nI k)).toNatClampNeg)) → Sat true d 135 σ.1 Q 6 [some (vr 233 0), some (vr 245 0), some (vi (nI i)), some (vr 261 0), some (vi (nI j)), some (vi (nI 1)), some (vi ((nI k) + nI 1))] [] σ)))))))))
      rw [ix (by omega), rw_.1]
      refine ⟨inb (by omega) (by omega), br_lt (by omega) (by omega) (fun _ => ⟨?_, hq, rfl⟩) (fun g => by omega)⟩
      cases b
      · exact Or.inl rfl
      · exact Or.inr rfl
    | succ m ih =>
      intro k b hk hb
      have ew : hI σ 245 0 (i + k) = nI (if k = 0 then w.length else w.getD (k - 1) 0) := by
        by_cases c : k = 0
        · rw [if_pos c, c]; exact rw_.1
        · rw [if_neg c, show i + k = i + 1 + (k - 1) by omega]; exact rw_.2 _ (by omega)
      have ev : hI σ 261 0 (j + k) = nI (if k = 0 then v.length else v.getD (k - 1) 0) := by
        by_cases c : k = 0
        · rw [if_pos c, c]; exact rv.1
        · rw [if_neg c, show j + k = j + 1 + (k - 1) by omega]; exact rv.2 _ (by omega)
      have lw : (if k = 0 then w.length else w.getD (k - 1) 0) < 128 := by
        have := row_lt cw (k - 1)
        split <;> omega
      have lv : (if k = 0 then v.length else v.getD (k - 1) 0) < 128 := by
        have := row_lt cv (k - 1)
        split <;> omega
      refine wp_ok (cut := [6]) ma_135 rfl 23 _ _ _ _ ?_
      show (vp_in (nI i) 20448 ∧ (((hI σ 245 0 ((nI i).toNatClampNeg)) < (nI k) → (((bI b) = 0 ∨ (bI b) = 1) ∧ (Q (some (vi (bI b))) σ ∧ σ.1 = σ.1))) ∧ (¬ (hI σ 245 0 ((nI i).toNatClampNeg)) < (nI k) → (((bI b) = 0 → (((bI b) = 0 ∨ (bI b) = 1) ∧ (Q (some (vi (bI b))) σ ∧ σ.1 = σ.1))) ∧ (¬ (bI b) = 0 → (vp_in ((nI i) + (nI k)) 20448 ∧ (vp_in ((nI j) + (nI k)) 5600 ∧ ((¬ (hI σ 245 0 (((nI i) + (nI k)).toNatClampNeg)) = (hI σ 261 0 (((nI j) + (nI k)).toNatClampNeg)) → Sat true d 135 σ.1 Q 6 [some (vr 233 0), some (vr 245 0), some (vi (nI i)), some (vr 261 0), some (vi (nI j)), some (vi (nI 0)), some (vi ((nI k) + nI 1))] [] σ) ∧ ((hI σ 245 0 (((nI i) + (nI k)).toNatClampNeg)) = (hI σ 261 0 (((nI j) + (nI k)).toNatClampNeg)) → Sat true d 135 σ.1 Q 6 [some (vr 233 0), some (vr 245 0), some (vi (nI i)), some (vr 261 0), some (vi (nI j)), some (vi (nI 1)), some (vi ((nI k) + nI 1))] [] σ)))))))))
      rw [ix (by omega), rw_.1, addN, addN, addN, ix (by omega), ix (by omega), ew, ev]
      refine ⟨inb (by omega) (by omega), br_lt (by omega) (by omega) (fun g => by omega) (fun _ => brI (fun q => ?_) (fun q => ⟨inb (by omega) (by omega), inb (by omega) (by omega), br_ne (by omega) (by omega) (fun g => ih (k + 1) false (by omega) ⟨fun q => (by cases q), fun z => absurd ?_ g⟩) (fun g => ih (k + 1) true (by omega) ⟨fun _ => ?_, fun _ => rfl⟩)⟩))⟩
      · have e : b = decide (w = v) := by
          rw [q]
          refine (decide_eq_false fun c => ?_).symm
          have := hb.mpr (by rw [c]; exact ⟨fun _ => rfl, fun _ _ => rfl⟩)
          rw [q] at this
          cases this
        rw [← e] at hq
        refine ⟨?_, hq, rfl⟩
        cases b
        · exact Or.inl rfl
        · exact Or.inr rfl
      · by_cases c : k = 0
        · rw [if_pos c, if_pos c]; exact z.1 (by omega)
        · rw [if_neg c, if_neg c]; exact z.2 (k - 1) (by omega)
      · have hb := hb.mp q
        by_cases c : k = 0
        · rw [if_pos c, if_pos c] at g
          exact ⟨fun _ => g, fun x hx => by omega⟩
        · rw [if_neg c, if_neg c] at g
          refine ⟨fun _ => hb.1 (by omega), fun x hx => ?_⟩
          by_cases e : x = k - 1
          · rw [e]; exact g
          · exact hb.2 x (by omega)
  refine wp_ok (cut := [6]) ma_135 rfl 4 _ _ _ _ ?_
  show Sat true d 135 σ.1 Q 6 [some (vr 233 0), some (vr 245 0), some (vi (nI i)), some (vr 261 0), some (vi (nI j)), some (vi (nI 1)), some (vi (nI 0))] [] σ
  exact loop (w.length + 1) 0 true (by omega) ⟨fun _ => ⟨fun q => by omega, fun x q => by omega⟩, fun _ => rfl⟩
theorem m_sameP238_238 (d : Nat) {i j p q : Nat} (hi : i + 14 ≤ 28) (hj : j + 14 ≤ 28) (hp : p < 12) (hq12 : q < 12) (hw : w.length ≤ 11) (hv : v.length ≤ 11) (cw : ∀ x ∈ w, x < 128) (cv : ∀ x ∈ v, x < 128) (rw_ : RowP (hI σ 238 0) i p w) (rv : RowP (hI σ 238 0) j q v) : EI (d + 1) 167 [vr 233 0, vr 238 0, vi (nI i), vr 238 0, vi (nI j)] σ (bI (decide (p = q ∧ w = v))) σ := by
  refine EI_of mt_167 (Nat.le_of_ble_eq_true rfl) fun Q hq => ?_
  have sa := m_sameA238_238 (σ := σ) d (i := i + 2) (j := j + 2) (by omega) (by omega) hw hv cw cv rw_.2.2 rv.2.2
  have bI01 : ∀ b : Bool, bI b = nI b.toNat := fun b => by cases b <;> rfl
  have tl : ∀ b : Bool, b.toNat < 2 := fun b => by cases b <;> decide
  refine wp_ok (cut := []) ma_167 rfl 38 _ _ _ _ ?_
  show (vp_in (nI i) 28 ∧ (vp_in (nI j) 28 ∧ ((¬ (hI σ 238 0 ((nI i).toNatClampNeg)) = (hI σ 238 0 ((nI j).toNatClampNeg)) → (((nI 0) = 0 ∨ (nI 0) = 1) ∧ (Q (some (vi (nI 0))) σ ∧ σ.1 = σ.1))) ∧ ((hI σ 238 0 ((nI i).toNatClampNeg)) = (hI σ 238 0 ((nI j).toNatClampNeg)) → (vp_in ((nI i) + (nI 1)) 28 ∧ (vp_in ((nI j) + (nI 1)) 28 ∧ ((¬ (hI σ 238 0 (((nI i) + (nI 1)).toNatClampNeg)) = (hI σ 238 0 (((nI j) + (nI 1)).toNatClampNeg)) → (((nI 0) = 0 ∨ (nI 0) = 1) ∧ (Q (some (vi (nI 0))) σ ∧ σ.1 = σ.1))) ∧ ((hI σ 238 0 (((nI i) + (nI 1)).toNatClampNeg)) = (hI σ 238 0 (((nI j) + (nI 1)).toNatClampNeg)) → (vp_in ((nI i) + (nI 1)) 28 ∧ (((hI σ 238 0 (((nI i) + (nI 1)).toNatClampNeg)) = 0 → (((nI 1) = 0 ∨ (nI 1) = 1) ∧ (Q (some (vi (nI 1))) σ ∧ σ.1 = σ.1))) ∧ (¬ (hI σ 238 0 (((nI i) + (nI 1)).toNatClampNeg)) = 0 → CalI true d 135 [vr 233 0, vr 238 0, vi ((nI i) + (nI 2)), vr 238 0, vi ((nI j) + (nI 2))] σ σ.1 (fun x2 s1 => ((x2 = 0 → (((nI 0) = 0 ∨ (nI 0) = 1) ∧ (Q (some (vi (nI 0))) s1 ∧ s1.1 = σ.1))) ∧ (¬ x2 = 0 → (((nI 1) = 0 ∨ (nI 1) = 1) ∧ (Q (some (vi (nI 1))) s1 ∧ s1.1 = σ.1))))))))))))))))
  rw [addN, addN, addN, addN, ix (by omega), ix (by omega), ix (by omega), ix (by omega), rw_.1, rv.1, rw_.2.1, rv.2.1]
  have t1 := tl (decide (w ≠ []))
  have t2 := tl (decide (v ≠ []))
  have no : ¬ (p = q ∧ w = v) → Q (some (vi (nI 0))) σ := fun c => by
    rw [decide_eq_false c] at hq
    exact hq
  have ys : (p = q ∧ w = v) → Q (some (vi (nI 1))) σ := fun c => by
    rw [decide_eq_true c] at hq
    exact hq
  refine ⟨inb (by omega) (by omega), inb (by omega) (by omega), br_ne (by omega) (by omega) (fun g => ⟨Or.inl rfl, no fun c => g c.1, rfl⟩) (fun g => ⟨inb (by omega) (by omega), inb (by omega) (by omega), fun g2 => ⟨Or.inl rfl, no fun c => g2 (by rw [c.2]), rfl⟩, fun g2 => ⟨inb (by omega) (by omega), brI (fun g3 => ?_) (fun g3 => cal_i sa rfl (brI (fun g4 => ⟨Or.inl rfl, no fun c => of_decide_eq_false g4 c.2, rfl⟩) (fun g4 => ⟨Or.inr rfl, ys ⟨g, of_decide_eq_true g4⟩, rfl⟩)))⟩⟩)⟩
  rw [g3] at g2
  have wn : w = [] := by
    by_cases c : w = []
    · exact c
    · exact absurd c (of_decide_eq_false g3)
  have vn : v = [] := by
    by_cases c : v = []
    · exact c
    · rw [decide_eq_true c] at g2
      exact absurd g2 (by decide)
  exact ⟨Or.inr rfl, ys ⟨g, by rw [wn, vn]⟩, rfl⟩
theorem m_sameP238_235 (d : Nat) {i j p q : Nat} (hi : i + 14 ≤ 28) (hj : j + 14 ≤ 2830) (hp : p < 12) (hq12 : q < 12) (hw : w.length ≤ 11) (hv : v.length ≤ 11) (cw : ∀ x ∈ w, x < 128) (cv : ∀ x ∈ v, x < 128) (rw_ : RowP (hI σ 238 0) i p w) (rv : RowP (hI σ 235 0) j q v) : EI (d + 1) 167 [vr 233 0, vr 238 0, vi (nI i), vr 235 0, vi (nI j)] σ (bI (decide (p = q ∧ w = v))) σ := by
  refine EI_of mt_167 (Nat.le_of_ble_eq_true rfl) fun Q hq => ?_
  have sa := m_sameA238_235 (σ := σ) d (i := i + 2) (j := j + 2) (by omega) (by omega) hw hv cw cv rw_.2.2 rv.2.2
  have bI01 : ∀ b : Bool, bI b = nI b.toNat := fun b => by cases b <;> rfl
  have tl : ∀ b : Bool, b.toNat < 2 := fun b => by cases b <;> decide
  refine wp_ok (cut := []) ma_167 rfl 38 _ _ _ _ ?_
  show (vp_in (nI i) 28 ∧ (vp_in (nI j) 2830 ∧ ((¬ (hI σ 238 0 ((nI i).toNatClampNeg)) = (hI σ 235 0 ((nI j).toNatClampNeg)) → (((nI 0) = 0 ∨ (nI 0) = 1) ∧ (Q (some (vi (nI 0))) σ ∧ σ.1 = σ.1))) ∧ ((hI σ 238 0 ((nI i).toNatClampNeg)) = (hI σ 235 0 ((nI j).toNatClampNeg)) → (vp_in ((nI i) + (nI 1)) 28 ∧ (vp_in ((nI j) + (nI 1)) 2830 ∧ ((¬ (hI σ 238 0 (((nI i) + (nI 1)).toNatClampNeg)) = (hI σ 235 0 (((nI j) + (nI 1)).toNatClampNeg)) → (((nI 0) = 0 ∨ (nI 0) = 1) ∧ (Q (some (vi (nI 0))) σ ∧ σ.1 = σ.1))) ∧ ((hI σ 238 0 (((nI i) + (nI 1)).toNatClampNeg)) = (hI σ 235 0 (((nI j) + (nI 1)).toNatClampNeg)) → (vp_in ((nI i) + (nI 1)) 28 ∧ (((hI σ 238 0 (((nI i) + (nI 1)).toNatClampNeg)) = 0 → (((nI 1) = 0 ∨ (nI 1) = 1) ∧ (Q (some (vi (nI 1))) σ ∧ σ.1 = σ.1))) ∧ (¬ (hI σ 238 0 (((nI i) + (nI 1)).toNatClampNeg)) = 0 → CalI true d 135 [vr 233 0, vr 238 0, vi ((nI i) + (nI 2)), vr 235 0, vi ((nI j) + (nI 2))] σ σ.1 (fun x2 s1 => ((x2 = 0 → (((nI 0) = 0 ∨ (nI 0) = 1) ∧ (Q (some (vi (nI 0))) s1 ∧ s1.1 = σ.1))) ∧ (¬ x2 = 0 → (((nI 1) = 0 ∨ (nI 1) = 1) ∧ (Q (some (vi (nI 1))) s1 ∧ s1.1 = σ.1))))))))))))))))
  rw [addN, addN, addN, addN, ix (by omega), ix (by omega), ix (by omega), ix (by omega), rw_.1, rv.1, rw_.2.1, rv.2.1]
  have t1 := tl (decide (w ≠ []))
  have t2 := tl (decide (v ≠ []))
  have no : ¬ (p = q ∧ w = v) → Q (some (vi (nI 0))) σ := fun c => by
    rw [decide_eq_false c] at hq
    exact hq
  have ys : (p = q ∧ w = v) → Q (some (vi (nI 1))) σ := fun c => by
    rw [decide_eq_true c] at hq
    exact hq
  refine ⟨inb (by omega) (by omega), inb (by omega) (by omega), br_ne (by omega) (by omega) (fun g => ⟨Or.inl rfl, no fun c => g c.1, rfl⟩) (fun g => ⟨inb (by omega) (by omega), inb (by omega) (by omega), fun g2 => ⟨Or.inl rfl, no fun c => g2 (by rw [c.2]), rfl⟩, fun g2 => ⟨inb (by omega) (by omega), brI (fun g3 => ?_) (fun g3 => cal_i sa rfl (brI (fun g4 => ⟨Or.inl rfl, no fun c => of_decide_eq_false g4 c.2, rfl⟩) (fun g4 => ⟨Or.inr rfl, ys ⟨g, of_decide_eq_true g4⟩, rfl⟩)))⟩⟩)⟩
  rw [g3] at g2
  have wn : w = [] := by
    by_cases c : w = []
    · exact c
    · exact absurd c (of_decide_eq_false g3)
  have vn : v = [] := by
    by_cases c : v = []
    · exact c
    · rw [decide_eq_true c] at g2
      exact absurd g2 (by decide)
  exact ⟨Or.inr rfl, ys ⟨g, by rw [wn, vn]⟩, rfl⟩
theorem m_sameP261_261 (d : Nat) {i j p q : Nat} (hi : i + 14 ≤ 5600) (hj : j + 14 ≤ 5600) (hp : p < 12) (hq12 : q < 12) (hw : w.length ≤ 11) (hv : v.length ≤ 11) (cw : ∀ x ∈ w, x < 128) (cv : ∀ x ∈ v, x < 128) (rw_ : RowP (hI σ 261 0) i p w) (rv : RowP (hI σ 261 0) j q v) : EI (d + 1) 167 [vr 233 0, vr 261 0, vi (nI i), vr 261 0, vi (nI j)] σ (bI (decide (p = q ∧ w = v))) σ := by
  refine EI_of mt_167 (Nat.le_of_ble_eq_true rfl) fun Q hq => ?_
  have sa := m_sameA261_261 (σ := σ) d (i := i + 2) (j := j + 2) (by omega) (by omega) hw hv cw cv rw_.2.2 rv.2.2
  have bI01 : ∀ b : Bool, bI b = nI b.toNat := fun b => by cases b <;> rfl
  have tl : ∀ b : Bool, b.toNat < 2 := fun b => by cases b <;> decide
  refine wp_ok (cut := []) ma_167 rfl 38 _ _ _ _ ?_
  show (vp_in (nI i) 5600 ∧ (vp_in (nI j) 5600 ∧ ((¬ (hI σ 261 0 ((nI i).toNatClampNeg)) = (hI σ 261 0 ((nI j).toNatClampNeg)) → (((nI 0) = 0 ∨ (nI 0) = 1) ∧ (Q (some (vi (nI 0))) σ ∧ σ.1 = σ.1))) ∧ ((hI σ 261 0 ((nI i).toNatClampNeg)) = (hI σ 261 0 ((nI j).toNatClampNeg)) → (vp_in ((nI i) + (nI 1)) 5600 ∧ (vp_in ((nI j) + (nI 1)) 5600 ∧ ((¬ (hI σ 261 0 (((nI i) + (nI 1)).toNatClampNeg)) = (hI σ 261 0 (((nI j) + (nI 1)).toNatClampNeg)) → (((nI 0) = 0 ∨ (nI 0) = 1) ∧ (Q (some (vi (nI 0))) σ ∧ σ.1 = σ.1))) ∧ ((hI σ 261 0 (((nI i) + (nI 1)).toNatClampNeg)) = (hI σ 261 0 (((nI j) + (nI 1)).toNatClampNeg)) → (vp_in ((nI i) + (nI 1)) 5600 ∧ (((hI σ 261 0 (((nI i) + (nI 1)).toNatClampNeg)) = 0 → (((nI 1) = 0 ∨ (nI 1) = 1) ∧ (Q (some (vi (nI 1))) σ ∧ σ.1 = σ.1))) ∧ (¬ (hI σ 261 0 (((nI i) + (nI 1)).toNatClampNeg)) = 0 → CalI true d 135 [vr 233 0, vr 261 0, vi ((nI i) + (nI 2)), vr 261 0, vi ((nI j) + (nI 2))] σ σ.1 (fun x2 s1 => ((x2 = 0 → (((nI 0) = 0 ∨ (nI 0) = 1) ∧ (Q (some (vi (nI 0))) s1 ∧ s1.1 = σ.1))) ∧ (¬ x2 = 0 → (((nI 1) = 0 ∨ (nI 1) = 1) ∧ (Q (some (vi (nI 1))) s1 ∧ s1.1 = σ.1))))))))))))))))
  rw [addN, addN, addN, addN, ix (by omega), ix (by omega), ix (by omega), ix (by omega), rw_.1, rv.1, rw_.2.1, rv.2.1]
  have t1 := tl (decide (w ≠ []))
  have t2 := tl (decide (v ≠ []))
  have no : ¬ (p = q ∧ w = v) → Q (some (vi (nI 0))) σ := fun c => by
    rw [decide_eq_false c] at hq
    exact hq
  have ys : (p = q ∧ w = v) → Q (some (vi (nI 1))) σ := fun c => by
    rw [decide_eq_true c] at hq
    exact hq
  refine ⟨inb (by omega) (by omega), inb (by omega) (by omega), br_ne (by omega) (by omega) (fun g => ⟨Or.inl rfl, no fun c => g c.1, rfl⟩) (fun g => ⟨inb (by omega) (by omega), inb (by omega) (by omega), fun g2 => ⟨Or.inl rfl, no fun c => g2 (by rw [c.2]), rfl⟩, fun g2 => ⟨inb (by omega) (by omega), brI (fun g3 => ?_) (fun g3 => cal_i sa rfl (brI (fun g4 => ⟨Or.inl rfl, no fun c => of_decide_eq_false g4 c.2, rfl⟩) (fun g4 => ⟨Or.inr rfl, ys ⟨g, of_decide_eq_true g4⟩, rfl⟩)))⟩⟩)⟩
  rw [g3] at g2
  have wn : w = [] := by
    by_cases c : w = []
    · exact c
    · exact absurd c (of_decide_eq_false g3)
  have vn : v = [] := by
    by_cases c : v = []
    · exact c
    · rw [decide_eq_true c] at g2
      exact absurd g2 (by decide)
  exact ⟨Or.inr rfl, ys ⟨g, by rw [wn, vn]⟩, rfl⟩
theorem m_sameP235_261 (d : Nat) {i j p q : Nat} (hi : i + 14 ≤ 2830) (hj : j + 14 ≤ 5600) (hp : p < 12) (hq12 : q < 12) (hw : w.length ≤ 11) (hv : v.length ≤ 11) (cw : ∀ x ∈ w, x < 128) (cv : ∀ x ∈ v, x < 128) (rw_ : RowP (hI σ 235 0) i p w) (rv : RowP (hI σ 261 0) j q v) : EI (d + 1) 167 [vr 233 0, vr 235 0, vi (nI i), vr 261 0, vi (nI j)] σ (bI (decide (p = q ∧ w = v))) σ := by
  refine EI_of mt_167 (Nat.le_of_ble_eq_true rfl) fun Q hq => ?_
  have sa := m_sameA235_261 (σ := σ) d (i := i + 2) (j := j + 2) (by omega) (by omega) hw hv cw cv rw_.2.2 rv.2.2
  have bI01 : ∀ b : Bool, bI b = nI b.toNat := fun b => by cases b <;> rfl
  have tl : ∀ b : Bool, b.toNat < 2 := fun b => by cases b <;> decide
  refine wp_ok (cut := []) ma_167 rfl 38 _ _ _ _ ?_
  show (vp_in (nI i) 2830 ∧ (vp_in (nI j) 5600 ∧ ((¬ (hI σ 235 0 ((nI i).toNatClampNeg)) = (hI σ 261 0 ((nI j).toNatClampNeg)) → (((nI 0) = 0 ∨ (nI 0) = 1) ∧ (Q (some (vi (nI 0))) σ ∧ σ.1 = σ.1))) ∧ ((hI σ 235 0 ((nI i).toNatClampNeg)) = (hI σ 261 0 ((nI j).toNatClampNeg)) → (vp_in ((nI i) + (nI 1)) 2830 ∧ (vp_in ((nI j) + (nI 1)) 5600 ∧ ((¬ (hI σ 235 0 (((nI i) + (nI 1)).toNatClampNeg)) = (hI σ 261 0 (((nI j) + (nI 1)).toNatClampNeg)) → (((nI 0) = 0 ∨ (nI 0) = 1) ∧ (Q (some (vi (nI 0))) σ ∧ σ.1 = σ.1))) ∧ ((hI σ 235 0 (((nI i) + (nI 1)).toNatClampNeg)) = (hI σ 261 0 (((nI j) + (nI 1)).toNatClampNeg)) → (vp_in ((nI i) + (nI 1)) 2830 ∧ (((hI σ 235 0 (((nI i) + (nI 1)).toNatClampNeg)) = 0 → (((nI 1) = 0 ∨ (nI 1) = 1) ∧ (Q (some (vi (nI 1))) σ ∧ σ.1 = σ.1))) ∧ (¬ (hI σ 235 0 (((nI i) + (nI 1)).toNatClampNeg)) = 0 → CalI true d 135 [vr 233 0, vr 235 0, vi ((nI i) + (nI 2)), vr 261 0, vi ((nI j) + (nI 2))] σ σ.1 (fun x2 s1 => ((x2 = 0 → (((nI 0) = 0 ∨ (nI 0) = 1) ∧ (Q (some (vi (nI 0))) s1 ∧ s1.1 = σ.1))) ∧ (¬ x2 = 0 → (((nI 1) = 0 ∨ (nI 1) = 1) ∧ (Q (some (vi (nI 1))) s1 ∧ s1.1 = σ.1))))))))))))))))
  rw [addN, addN, addN, addN, ix (by omega), ix (by omega), ix (by omega), ix (by omega), rw_.1, rv.1, rw_.2.1, rv.2.1]
  have t1 := tl (decide (w ≠ []))
  have t2 := tl (decide (v ≠ []))
  have no : ¬ (p = q ∧ w = v) → Q (some (vi (nI 0))) σ := fun c => by
    rw [decide_eq_false c] at hq
    exact hq
  have ys : (p = q ∧ w = v) → Q (some (vi (nI 1))) σ := fun c => by
    rw [decide_eq_true c] at hq
    exact hq
  refine ⟨inb (by omega) (by omega), inb (by omega) (by omega), br_ne (by omega) (by omega) (fun g => ⟨Or.inl rfl, no fun c => g c.1, rfl⟩) (fun g => ⟨inb (by omega) (by omega), inb (by omega) (by omega), fun g2 => ⟨Or.inl rfl, no fun c => g2 (by rw [c.2]), rfl⟩, fun g2 => ⟨inb (by omega) (by omega), brI (fun g3 => ?_) (fun g3 => cal_i sa rfl (brI (fun g4 => ⟨Or.inl rfl, no fun c => of_decide_eq_false g4 c.2, rfl⟩) (fun g4 => ⟨Or.inr rfl, ys ⟨g, of_decide_eq_true g4⟩, rfl⟩)))⟩⟩)⟩
  rw [g3] at g2
  have wn : w = [] := by
    by_cases c : w = []
    · exact c
    · exact absurd c (of_decide_eq_false g3)
  have vn : v = [] := by
    by_cases c : v = []
    · exact c
    · rw [decide_eq_true c] at g2
      exact absurd g2 (by decide)
  exact ⟨Or.inr rfl, ys ⟨g, by rw [wn, vn]⟩, rfl⟩
end
theorem txNum_inj {k m : Nat} (hk : k ≤ 99) (hm : m ≤ 99) (h : txNum k = txNum m) : k = m := by
  unfold txNum at h
  split at h
  · split at h
    · omega
    · split at h <;> cases h
  · split at h
    · split at h
      · cases h
      · split at h
        · have := List.cons.inj (List.cons.inj h).2
          omega
        · have := congrArg List.length h
          cases this
    · split at h
      · cases h
      · split at h
        · have := congrArg List.length h
          cases this
        · have h1 := List.cons.inj (List.cons.inj h).2
          have h2 := List.cons.inj h1.2
          omega
theorem name_no {w : List Nat} (h : gName w) : ∀ x ∈ w, x ≠ 45 := by
  obtain ⟨c, r, e, h1, h2, q⟩ := h
  intro x hx
  rw [e] at hx
  cases hx with
  | head => have := h1.1; omega
  | tail _ g => rcases h2 x g with w | w <;> (have := w.1; omega)
theorem txAnc_split : ∀ {n m a b : List Nat}, (∀ x ∈ n, x ≠ 45) → (∀ x ∈ m, x ≠ 45) → (a = [] ∨ ∃ r, a = 45 :: r) → (b = [] ∨ ∃ r, b = 45 :: r) → n ++ a = m ++ b → n = m ∧ a = b := by
  intro n
  induction n with
  | nil =>
    intro m a b _ hm ha hb h
    cases m with
    | nil => exact ⟨rfl, h⟩
    | cons y m =>
      have h : a = y :: (m ++ b) := h
      rcases ha with e | ⟨r, e⟩
      · rw [e] at h; cases h
      · rw [e] at h
        cases h
        exact absurd rfl (hm 45 List.mem_cons_self)
  | cons x n ih =>
    intro m a b hn hm ha hb h
    cases m with
    | nil =>
      have h : x :: (n ++ a) = b := h
      rcases hb with e | ⟨r, e⟩
      · rw [e] at h; cases h
      · rw [e] at h
        cases h
        exact absurd rfl (hn 45 List.mem_cons_self)
    | cons y m =>
      have h : x :: (n ++ a) = y :: (m ++ b) := h
      obtain ⟨h1, h2⟩ := List.cons.inj h
      obtain ⟨k1, k2⟩ := ih (fun z hz => hn z (List.mem_cons_of_mem _ hz)) (fun z hz => hm z (List.mem_cons_of_mem _ hz)) ha hb h2
      exact ⟨by rw [h1, k1], k2⟩
theorem txNum_st (k : Nat) : txNum k = [] ∨ ∃ r, txNum k = 45 :: r := by
  unfold txNum
  split
  · exact Or.inl rfl
  · split
    · exact Or.inr ⟨_, rfl⟩
    · exact Or.inr ⟨_, rfl⟩
theorem txAnc_inj {a b : Anc} (ha : gAnc a) (hb : gAnc b) : txAnc a = txAnc b ↔ a = b := by
  constructor
  · intro h
    obtain ⟨h1, h2⟩ := txAnc_split (name_no ha.1) (name_no hb.1) (txNum_st a.2) (txNum_st b.2) h
    exact Prod.ext h1 (txNum_inj ha.2 hb.2 h2)
  · intro h; rw [h]
theorem txAnc_le2 {a : Anc} (ha : gAnc a) : 1 ≤ (txAnc a).length ∧ (txAnc a).length ≤ 11 := by
  have := gName_len ha.1
  have e : (txAnc a).length = a.1.length + (txNum a.2).length := List.length_append
  have l : (txNum a.2).length ≤ 3 := by
    unfold txNum
    split
    · exact Nat.zero_le _
    · split
      · exact Nat.le_succ 2
      · exact Nat.le_refl 3
  omega
theorem txAnc_lt {a : Anc} (ha : gAnc a) : ∀ x ∈ txAnc a, x < 128 := by
  intro x hx
  rcases List.mem_append.mp hx with h | h
  · exact gName_lt ha.1 x h
  · have h9 := ha.2
    unfold txNum at h
    split at h
    · cases h
    · split at h
      · rcases List.mem_cons.mp h with e | h
        · omega
        · rcases List.mem_cons.mp h with e | h
          · omega
          · cases h
      · rcases List.mem_cons.mp h with e | h
        · omega
        · rcases List.mem_cons.mp h with e | h
          · omega
          · rcases List.mem_cons.mp h with e | h
            · omega
            · cases h
theorem txO_inj {a b : Option Anc} (ha : gAO a) (hb : gAO b) : txO a = txO b ↔ a = b := by
  cases a with
  | none =>
    cases b with
    | none => exact ⟨fun _ => rfl, fun _ => rfl⟩
    | some y =>
      refine ⟨fun h => ?_, fun h => by cases h⟩
      have := txAnc_le2 (hb y rfl)
      have e : ([] : List Nat) = txAnc y := h
      rw [← e] at this
      exact absurd this.1 (by decide)
  | some x =>
    cases b with
    | none =>
      refine ⟨fun h => ?_, fun h => by cases h⟩
      have := txAnc_le2 (ha x rfl)
      have e : txAnc x = [] := h
      rw [e] at this
      exact absurd this.1 (by decide)
    | some y => exact ⟨fun h => by rw [(txAnc_inj (ha x rfl) (hb y rfl)).mp h], fun h => by cases h; rfl⟩
theorem txO_nil {a : Option Anc} (ha : gAO a) : txO a = [] ↔ a = none := txO_inj ha (b := none) (fun x h => by cases h)
theorem txO_lt {a : Option Anc} (ha : gAO a) : ∀ x ∈ txO a, x < 128 := by
  cases a with
  | none => intro x hx; cases hx
  | some x => exact txAnc_lt (ha x rfl)
