/-! the model: lesser, changes, remembered, isSectionWith, offer -/
theorem m_lesser (d : Nat) (σ : Hp) {a b : Nat} (ha : a < 2147483648) (hb : b < 2147483648) : EI d 187 [vi (nI a), vi (nI b)] σ (nI (min a b)) σ := by
  refine EI_of mt_187 (Nat.le_of_ble_eq_true rfl) fun Q hq => ?_
  refine wp_ok (cut := []) ma_187 rfl 6 _ _ _ _ ?_
  show (((nI b) ≤ (nI a) → (Q (some (vi (nI b))) σ ∧ σ.1 = σ.1)) ∧ (¬ (nI b) ≤ (nI a) → (Q (some (vi (nI a))) σ ∧ σ.1 = σ.1)))
  refine br_le hb ha (fun g => ?_) (fun g => ?_)
  · rw [Nat.min_eq_right g] at hq
    exact ⟨hq, rfl⟩
  · rw [Nat.min_eq_left (by omega)] at hq
    exact ⟨hq, rfl⟩
def S263 (f _ : Nat) : Prop := f = 263
section
variable {σ : Hp} {w v : List Nat}
set_option maxRecDepth 6000 in
theorem m_changes (d : Nat) {o t : Nat} (ho : o + 12 ≤ 20448) (ht : t + 12 ≤ 20448) (hw : w.length ≤ 11) (hv : v.length ≤ 11) (cw : ∀ x ∈ w, x < 128) (cv : ∀ x ∈ v, x < 128) (rw_ : RowA (hI σ 245 0) o w) (rv : RowA (hI σ 245 0) t v) : PI (d + 1) 188 [vr 233 0, vi (nI o), vi (nI t)] σ (nI (dist w v)) (fun h => FrM S263 σ h) := by
  refine PI_of mt_188 (Nat.le_of_ble_eq_true rfl) fun Q hq => ?_
  have bd : ∀ i j, i ≤ 11 → j ≤ 11 → dR w v i j ≤ 22 := fun i j h1 h2 => by have := dR_len w v i j; omega
  have cols : ∀ i, i < w.length → (∀ h, FrM S263 σ h → (∀ x, x ≤ v.length → hI h 263 0 x = nI (dR w v (i + 1) x)) → Sat true (d + 1) 188 σ.1 Q 43 [some (vr 233 0), some (vi (nI o)), some (vi (nI t)), some (vi (nI w.length)), some (vi (nI v.length)), some (vi (nI (i + 1 + 1))), none, none, none] [] h) → ∀ (n j : Nat) (h : Hp), j + n = v.length → FrM S263 σ h → (∀ x, x ≤ j → hI h 263 0 x = nI (dR w v (i + 1) x)) → (∀ x, j < x → x ≤ v.length → hI h 263 0 x = nI (dR w v i x)) → Sat true (d + 1) 188 σ.1 Q 68 [some (vr 233 0), some (vi (nI o)), some (vi (nI t)), some (vi (nI w.length)), some (vi (nI v.length)), some (vi (nI (i + 1))), some (vi (nI (dR w v i j))), some (vi (nI (j + 1))), none] [] h := by
    intro i hi kq n
    induction n with
    | zero =>
      intro j h hj f a b
      have hj : j = v.length := hj
      subst hj
      refine wp_ok (cut := [18, 43, 68]) ma_188 rfl 47 _ _ _ _ ?_
      show (((nI v.length) < (nI (v.length + 1)) → Sat true (d + 1) 188 σ.1 Q 43 [some (vr 233 0), some (vi (nI o)), some (vi (nI t)), some (vi (nI w.length)), some (vi (nI v.length)), some (vi ((nI (i + 1)) + nI 1)), some (vi (nI (dR w v i v.length))), some (vi (nI (v.length + 1))), none] [] h) ∧ (¬ (nI v.length) < (nI (v.length + 1)) → (vp_in ((nI o) + (nI (i + 1))) 20448 ∧ (vp_in ((nI t) + (nI (v.length + 1))) 20448 ∧ ((¬ (hI h 245 0 (((nI o) + (nI (i + 1))).toNatClampNeg)) = (hI h 245 0 (((nI t) + (nI (v.length + 1))).toNatClampNeg)) → (vp_in (nI (v.length + 1)) 12 ∧ (vp_in (nI (v.length + 1)) 12 ∧ (vp_in ((nI (v.length + 1)) - (nI 1)) 12 ∧ CalI true d 187 [vi (hI h 263 0 ((nI (v.length + 1)).toNatClampNeg)), vi (hI h 263 0 (((nI (v.length + 1)) - (nI 1)).toNatClampNeg))] h σ.1 (fun x2 s1 => CalI true d 187 [vi ((nI (dR w v i v.length)) + (nI 1)), vi (x2 + (nI 1))] s1 σ.1 (fun x4 s3 => (vp_in (nI (v.length + 1)) 12 ∧ Sat true (d + 1) 188 σ.1 Q 68 [some (vr 233 0), some (vi (nI o)), some (vi (nI t)), some (vi (nI w.length)), some (vi (nI v.length)), some (vi (nI (i + 1))), some (vi (hI h 263 0 ((nI (v.length + 1)).toNatClampNeg))), some (vi ((nI (v.length + 1)) + nI 1)), some (vi ((nI (dR w v i v.length)) + (nI 1)))] [] (setI s3 263 0 ((nI (v.length + 1)).toNatClampNeg) x4)))))))) ∧ ((hI h 245 0 (((nI o) + (nI (i + 1))).toNatClampNeg)) = (hI h 245 0 (((nI t) + (nI (v.length + 1))).toNatClampNeg)) → (vp_in (nI (v.length + 1)) 12 ∧ (vp_in (nI (v.length + 1)) 12 ∧ (vp_in ((nI (v.length + 1)) - (nI 1)) 12 ∧ CalI true d 187 [vi (hI h 263 0 ((nI (v.length + 1)).toNatClampNeg)), vi (hI h 263 0 (((nI (v.length + 1)) - (nI 1)).toNatClampNeg))] h σ.1 (fun x6 s5 => CalI true d 187 [vi ((nI (dR w v i v.length)) + (nI 0)), vi (x6 + (nI 1))] s5 σ.1 (fun x8 s7 => (vp_in (nI (v.length + 1)) 12 ∧ Sat true (d + 1) 188 σ.1 Q 68 [some (vr 233 0), some (vi (nI o)), some (vi (nI t)), some (vi (nI w.length)), some (vi (nI v.length)), some (vi (nI (i + 1))), some (vi (hI h 263 0 ((nI (v.length + 1)).toNatClampNeg))), some (vi ((nI (v.length + 1)) + nI 1)), some (vi ((nI (dR w v i v.length)) + (nI 0)))] [] (setI s7 263 0 ((nI (v.length + 1)).toNatClampNeg) x8)))))))))))))
      rw [addN]
      exact ⟨fun _ => Sat_no 6 (Sat_no 7 (kq h f a)), fun g => absurd ((ltN (by omega) (by omega)).mpr (by omega)) g⟩
    | succ n ih =>
      intro j h hj f a b
      have e245 : hI h 245 0 = hI σ 245 0 := f.fam (fun k w => by have w : 245 = 263 := w; omega) 0
      have a0 := a j (Nat.le_refl _)
      have b0 := b (j + 1) (by omega) (by omega)
      have d1 := bd i j (by omega) (by omega)
      have d2 := bd (i + 1) j (by omega) (by omega)
      have d3 := bd i (j + 1) (by omega) (by omega)
      have c1 := row_lt cw i
      have c2 := row_lt cv j
      have ew : hI h 245 0 (o + (i + 1)) = nI (w.getD i 0) := by rw [e245, show o + (i + 1) = o + 1 + i by omega]; exact rw_.2 i (by omega)
      have ev : hI h 245 0 (t + (j + 1)) = nI (v.getD j 0) := by rw [e245, show t + (j + 1) = t + 1 + j by omega]; exact rv.2 j (by omega)
      have fin : ∀ k, k = (if w.getD i 0 = v.getD j 0 then 0 else 1) → ∀ x8 : Int32, Sat true (d + 1) 188 σ.1 Q 68 [some (vr 233 0), some (vi (nI o)), some (vi (nI t)), some (vi (nI w.length)), some (vi (nI v.length)), some (vi (nI (i + 1))), some (vi (nI (dR w v i (j + 1)))), some (vi (nI (j + 1 + 1))), some (vi x8)] [] (setI h 263 0 (j + 1) (nI (min (dR w v i j + k) (min (dR w v i (j + 1)) (dR w v (i + 1) j) + 1)))) := by
        intro k hk x8
        have ek : min (dR w v i j + k) (min (dR w v i (j + 1)) (dR w v (i + 1) j) + 1) = dR w v (i + 1) (j + 1) := by rw [dR_s, hk]
        rw [ek]
        have nx := ih (j + 1) (setI h 263 0 (j + 1) (nI (dR w v (i + 1) (j + 1)))) (by omega) (f.sI (f := 263) rfl _) (fun x hx => ?_) (fun x h1 h2 => ?_)
        · exact Sat_no 8 nx
        · by_cases c : x = j + 1
          · rw [c, hI_s]
          · rw [hI_k _ _ _ _ c]
            exact a x (by omega)
        · rw [hI_k _ _ _ _ (by omega)]
          exact b x (by omega) h2
      have i1 : vp_in (nI (j + 1)) 12 := inb (by omega) (by omega)
      have i2 : vp_in (nI j) 12 := inb (by omega) (by omega)
      have calc2 : ∀ k, k ≤ 1 → k = (if w.getD i 0 = v.getD j 0 then 0 else 1) → CalI true d 187 [vi (nI (dR w v i (j + 1))), vi (nI (dR w v (i + 1) j))] h σ.1 (fun x2 s1 => CalI true d 187 [vi (nI (dR w v i j) + nI k), vi (x2 + nI 1)] s1 σ.1 (fun x4 s3 => vp_in (nI (j + 1)) 12 ∧ Sat true (d + 1) 188 σ.1 Q 68 [some (vr 233 0), some (vi (nI o)), some (vi (nI t)), some (vi (nI w.length)), some (vi (nI v.length)), some (vi (nI (i + 1))), some (vi (nI (dR w v i (j + 1)))), some (vi (nI (j + 1 + 1))), some (vi (nI (dR w v i j) + nI k))] [] (setI s3 263 0 (j + 1) x4))) := by
        intro k k1 hk
        refine cal_i (m_lesser d h (by omega) (by omega)) f.1 ?_
        rw [addN, addN]
        exact cal_i (m_lesser d h (by omega) (by omega)) f.1 ⟨i1, fin k hk _⟩
      refine wp_ok (cut := [18, 43, 68]) ma_188 rfl 47 _ _ _ _ ?_
      show (((nI v.length) < (nI (j + 1)) → Sat true (d + 1) 188 σ.1 Q 43 [some (vr 233 0), some (vi (nI o)), some (vi (nI t)), some (vi (nI w.length)), some (vi (nI v.length)), some (vi ((nI (i + 1)) + nI 1)), some (vi (nI (dR w v i j))), some (vi (nI (j + 1))), none] [] h) ∧ (¬ (nI v.length) < (nI (j + 1)) → (vp_in ((nI o) + (nI (i + 1))) 20448 ∧ (vp_in ((nI t) + (nI (j + 1))) 20448 ∧ ((¬ (hI h 245 0 (((nI o) + (nI (i + 1))).toNatClampNeg)) = (hI h 245 0 (((nI t) + (nI (j + 1))).toNatClampNeg)) → (vp_in (nI (j + 1)) 12 ∧ (vp_in (nI (j + 1)) 12 ∧ (vp_in ((nI (j + 1)) - (nI 1)) 12 ∧ CalI true d 187 [vi (hI h 263 0 ((nI (j + 1)).toNatClampNeg)), vi (hI h 263 0 (((nI (j + 1)) - (nI 1)).toNatClampNeg))] h σ.1 (fun x2 s1 => CalI true d 187 [vi ((nI (dR w v i j)) + (nI 1)), vi (x2 + (nI 1))] s1 σ.1 (fun x4 s3 => (vp_in (nI (j + 1)) 12 ∧ Sat true (d + 1) 188 σ.1 Q 68 [some (vr 233 0), some (vi (nI o)), some (vi (nI t)), some (vi (nI w.length)), some (vi (nI v.length)), some (vi (nI (i + 1))), some (vi (hI h 263 0 ((nI (j + 1)).toNatClampNeg))), some (vi ((nI (j + 1)) + nI 1)), some (vi ((nI (dR w v i j)) + (nI 1)))] [] (setI s3 263 0 ((nI (j + 1)).toNatClampNeg) x4)))))))) ∧ ((hI h 245 0 (((nI o) + (nI (i + 1))).toNatClampNeg)) = (hI h 245 0 (((nI t) + (nI (j + 1))).toNatClampNeg)) → (vp_in (nI (j + 1)) 12 ∧ (vp_in (nI (j + 1)) 12 ∧ (vp_in ((nI (j + 1)) - (nI 1)) 12 ∧ CalI true d 187 [vi (hI h 263 0 ((nI (j + 1)).toNatClampNeg)), vi (hI h 263 0 (((nI (j + 1)) - (nI 1)).toNatClampNeg))] h σ.1 (fun x6 s5 => CalI true d 187 [vi ((nI (dR w v i j)) + (nI 0)), vi (x6 + (nI 1))] s5 σ.1 (fun x8 s7 => (vp_in (nI (j + 1)) 12 ∧ Sat true (d + 1) 188 σ.1 Q 68 [some (vr 233 0), some (vi (nI o)), some (vi (nI t)), some (vi (nI w.length)), some (vi (nI v.length)), some (vi (nI (i + 1))), some (vi (hI h 263 0 ((nI (j + 1)).toNatClampNeg))), some (vi ((nI (j + 1)) + nI 1)), some (vi ((nI (dR w v i j)) + (nI 0)))] [] (setI s7 263 0 ((nI (j + 1)).toNatClampNeg) x8)))))))))))))
      rw [subN (a := j + 1) (b := 1) (by omega), Nat.add_sub_cancel, ix (n := j + 1) (by omega), ix (n := j) (by omega), addN o, addN t, addN (j + 1), ix (by omega), ix (by omega), a0, b0, ew, ev]
      exact br_lt (by omega) (by omega) (fun g => by omega) (fun _ => ⟨inb (by omega) (by omega), inb (by omega) (by omega), br_ne (by omega) (by omega) (fun g => ⟨i1, i1, i2, calc2 1 (by omega) (if_neg g).symm⟩) (fun g => ⟨i1, i1, i2, calc2 0 (by omega) (if_pos g).symm⟩)⟩)
  have lines : ∀ (n i : Nat) (h : Hp), i + n = w.length → FrM S263 σ h → (∀ x, x ≤ v.length → hI h 263 0 x = nI (dR w v i x)) → Sat true (d + 1) 188 σ.1 Q 43 [some (vr 233 0), some (vi (nI o)), some (vi (nI t)), some (vi (nI w.length)), some (vi (nI v.length)), some (vi (nI (i + 1))), none, none, none] [] h := by
    intro n
    induction n with
    | zero =>
      intro i h hi f a
      have hi : i = w.length := hi
      subst hi
      have hq := hq h f
      refine wp_ok (cut := [18, 43, 68]) ma_188 rfl 15 _ _ _ _ ?_
      show (((nI w.length) < (nI (w.length + 1)) → (vp_in (nI v.length) 12 ∧ (Q (some (vi (hI h 263 0 ((nI v.length).toNatClampNeg)))) h ∧ h.1 = σ.1))) ∧ (¬ (nI w.length) < (nI (w.length + 1)) → (vp_in (nI 0) 12 ∧ (vp_in (nI 0) 12 ∧ Sat true (d + 1) 188 σ.1 Q 68 [some (vr 233 0), some (vi (nI o)), some (vi (nI t)), some (vi (nI w.length)), some (vi (nI v.length)), some (vi (nI (w.length + 1))), some (vi (hI h 263 0 0)), some (vi (nI 1)), none] [] (setI h 263 0 0 (nI (w.length + 1)))))))
      rw [ix (by omega), a _ (Nat.le_refl _)]
      exact br_lt (by omega) (by omega) (fun _ => ⟨inb (by omega) (by omega), hq, f.1⟩) (fun g => by omega)
    | succ n ih =>
      intro i h hi f a
      have st := cols i (by omega) (fun h1 f1 a1 => ih (i + 1) h1 (by omega) f1 a1) v.length 0 (setI h 263 0 0 (nI (i + 1))) (by omega) (f.sI (f := 263) rfl _) (fun x hx => by
        have e : x = 0 := by omega
        rw [e, hI_s, dR_0]) (fun x h1 h2 => by
        rw [hI_k _ _ _ _ (by omega)]
        exact a x h2)
      refine wp_ok (cut := [18, 43, 68]) ma_188 rfl 15 _ _ _ _ ?_
      show (((nI w.length) < (nI (i + 1)) → (vp_in (nI v.length) 12 ∧ (Q (some (vi (hI h 263 0 ((nI v.length).toNatClampNeg)))) h ∧ h.1 = σ.1))) ∧ (¬ (nI w.length) < (nI (i + 1)) → (vp_in (nI 0) 12 ∧ (vp_in (nI 0) 12 ∧ Sat true (d + 1) 188 σ.1 Q 68 [some (vr 233 0), some (vi (nI o)), some (vi (nI t)), some (vi (nI w.length)), some (vi (nI v.length)), some (vi (nI (i + 1))), some (vi (hI h 263 0 0)), some (vi (nI 1)), none] [] (setI h 263 0 0 (nI (i + 1)))))))
      rw [a 0 (Nat.zero_le _)]
      exact br_lt (by omega) (by omega) (fun g => by omega) (fun _ => ⟨inb (by omega) (by omega), inb (by omega) (by omega), st⟩)
  have fill : ∀ (n j : Nat) (h : Hp), j + n = v.length + 1 → FrM S263 σ h → (∀ x, x < j → hI h 263 0 x = nI x) → Sat true (d + 1) 188 σ.1 Q 18 [some (vr 233 0), some (vi (nI o)), some (vi (nI t)), some (vi (nI w.length)), some (vi (nI v.length)), some (vi (nI j)), none, none, none] [] h := by
    intro n
    induction n with
    | zero =>
      intro j h hj f a
      refine wp_ok (cut := [18, 43, 68]) ma_188 rfl 10 _ _ _ _ ?_
      show (((nI v.length) < (nI j) → Sat true (d + 1) 188 σ.1 Q 43 [some (vr 233 0), some (vi (nI o)), some (vi (nI t)), some (vi (nI w.length)), some (vi (nI v.length)), some (vi (nI 1)), none, none, none] [] h) ∧ (¬ (nI v.length) < (nI j) → (vp_in (nI j) 12 ∧ Sat true (d + 1) 188 σ.1 Q 18 [some (vr 233 0), some (vi (nI o)), some (vi (nI t)), some (vi (nI w.length)), some (vi (nI v.length)), some (vi ((nI j) + nI 1)), none, none, none] [] (setI h 263 0 ((nI j).toNatClampNeg) (nI j)))))
      exact br_lt (by omega) (by omega) (fun _ => lines w.length 0 h (by omega) f (fun x hx => a x (by omega))) (fun g => by omega)
    | succ n ih =>
      intro j h hj f a
      refine wp_ok (cut := [18, 43, 68]) ma_188 rfl 10 _ _ _ _ ?_
      show (((nI v.length) < (nI j) → Sat true (d + 1) 188 σ.1 Q 43 [some (vr 233 0), some (vi (nI o)), some (vi (nI t)), some (vi (nI w.length)), some (vi (nI v.length)), some (vi (nI 1)), none, none, none] [] h) ∧ (¬ (nI v.length) < (nI j) → (vp_in (nI j) 12 ∧ Sat true (d + 1) 188 σ.1 Q 18 [some (vr 233 0), some (vi (nI o)), some (vi (nI t)), some (vi (nI w.length)), some (vi (nI v.length)), some (vi ((nI j) + nI 1)), none, none, none] [] (setI h 263 0 ((nI j).toNatClampNeg) (nI j)))))
      rw [ix (by omega), addN]
      refine br_lt (by omega) (by omega) (fun g => by omega) (fun _ => ⟨inb (by omega) (by omega), ih (j + 1) _ (by omega) (f.sI (f := 263) rfl _) (fun x hx => ?_)⟩)
      by_cases c : x = j
      · rw [c, hI_s]
      · rw [hI_k _ _ _ _ c]
        exact a x (by omega)
  refine wp_ok (cut := [18]) ma_188 rfl 12 _ _ _ _ ?_
  show (vp_in (nI o) 20448 ∧ (vp_in (nI t) 20448 ∧ Sat true (d + 1) 188 σ.1 Q 18 [some (vr 233 0), some (vi (nI o)), some (vi (nI t)), some (vi (hI σ 245 0 ((nI o).toNatClampNeg))), some (vi (hI σ 245 0 ((nI t).toNatClampNeg))), some (vi (nI 0)), none, none, none] [] σ))
  rw [ix (by omega), ix (by omega), rw_.1, rv.1]
  exact ⟨inb (by omega) (by omega), inb (by omega) (by omega), fill (v.length + 1) 0 σ (by omega) (FrM.rfl' _ _) (fun x hx => absurd hx (Nat.not_lt_zero _))⟩
end
