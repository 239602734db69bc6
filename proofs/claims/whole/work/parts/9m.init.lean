/-! constructors that make arrays alone (written by gen_init.py) -/
set_option maxRecDepth 6000 in
theorem i_State (d : Nat) {σ : Hp} {i : Nat} (hc : cidx 8 i < σ.1.1) (hfa : ∀ t, t < 9 → fa (σ.1.1 + t) = (9 + t, i)) : MV (d + 1) 58 [vr 8 i] σ (σ.1.1 + 9, σ.1.2.1 + 2100, σ.1.2.2) (fun h => MkI 9 σ h 8 i [(0, 9), (1, 10), (3, 11), (4, 12), (5, 13), (6, 14), (8, 15), (9, 16), (10, 17)] 9 2100) := by
  refine MV_of mt_58 (Nat.le_of_ble_eq_true rfl) ⟨Nat.le_add_right _ _, Nat.le_add_right _ _⟩ fun Q hq => ?_
  have s9 : ∀ h, MkI 9 σ h 8 i [(0, 9), (1, 10), (3, 11), (4, 12), (5, 13), (6, 14), (8, 15), (9, 16), (10, 17)] 9 2100 → Sat false (d + 1) 58 (σ.1.1 + 9, σ.1.2.1 + 2100, σ.1.2.2) Q 87 [some (vr 8 i)] [] h := by
    intro h k
    have c1 : h.1.1 = σ.1.1 + 9 := congrArg Prod.fst k.2.2.2
    refine wp_ok (cut := []) ma_58 rfl 1 _ _ _ _ ?_
    show (Q none h ∧ h.1 = (σ.1.1 + 9, σ.1.2.1 + 2100, σ.1.2.2))
    exact ⟨hq _ (k), k.2.2.2⟩
  have s8 : ∀ h, MkI 9 σ h 8 i [(0, 9), (1, 10), (3, 11), (4, 12), (5, 13), (6, 14), (8, 15), (9, 16)] 8 2060 → Sat false (d + 1) 58 (σ.1.1 + 9, σ.1.2.1 + 2100, σ.1.2.2) Q 79 [some (vr 8 i)] [] h := by
    intro h k
    have c1 : h.1.1 = σ.1.1 + 8 := congrArg Prod.fst k.2.2.2
    have c2 : h.1.2.1 = σ.1.2.1 + 2060 := congrArg (fun q => q.2.1) k.2.2.2
    have e : fa h.1.1 = (17, i) := by rw [c1]; exact hfa 8 (by omega)
    refine wp_ok (cut := [84]) ma_58 rfl 3 _ _ _ _ ?_
    show (¬ (nI 40) < 0 ∧ fkd (fa h.1.1).1 = (20, 40) ∧ h.1.1 + 1 ≤ (σ.1.1 + 9, σ.1.2.1 + 2100, σ.1.2.2).1 ∧ h.1.2.1 + 40 ≤ (σ.1.1 + 9, σ.1.2.1 + 2100, σ.1.2.2).2.1 ∧ Sat false (d + 1) 58 (σ.1.1 + 9, σ.1.2.1 + 2100, σ.1.2.2) Q 84 [some (vr 8 i)] [Sum.inr (Sum.inr (some (fa h.1.1))), vr 8 i] (zap h (fa h.1.1).1 (fa h.1.1).2 40))
    rw [e]
    refine ⟨nn0 40 (by omega), rfl, by show _ ≤ σ.1.1 + 9; omega, by show _ ≤ σ.1.2.1 + 2100; omega, ?_⟩
    refine wp_ok (cut := [87]) ma_58 rfl 1 _ _ _ _ ?_
    show (cidx 8 i < (zap (h) 17 i 40).1.1 ∧ Sat false (d + 1) 58 (σ.1.1 + 9, σ.1.2.1 + 2100, σ.1.2.2) Q 87 [some (vr 8 i)] [] (setR (zap (h) 17 i 40) 8 i 10 (some (17, i))))
    exact ⟨by show _ < h.1.1 + 1; omega, s9 _ (mk_R (mk_z (k) (by omega) (by omega) 40) (by decide))⟩
  have s7 : ∀ h, MkI 9 σ h 8 i [(0, 9), (1, 10), (3, 11), (4, 12), (5, 13), (6, 14), (8, 15)] 7 2020 → Sat false (d + 1) 58 (σ.1.1 + 9, σ.1.2.1 + 2100, σ.1.2.2) Q 71 [some (vr 8 i)] [] h := by
    intro h k
    have c1 : h.1.1 = σ.1.1 + 7 := congrArg Prod.fst k.2.2.2
    have c2 : h.1.2.1 = σ.1.2.1 + 2020 := congrArg (fun q => q.2.1) k.2.2.2
    have e : fa h.1.1 = (16, i) := by rw [c1]; exact hfa 7 (by omega)
    refine wp_ok (cut := [76]) ma_58 rfl 3 _ _ _ _ ?_
    show (¬ (nI 40) < 0 ∧ fkd (fa h.1.1).1 = (22, 40) ∧ h.1.1 + 1 ≤ (σ.1.1 + 9, σ.1.2.1 + 2100, σ.1.2.2).1 ∧ h.1.2.1 + 40 ≤ (σ.1.1 + 9, σ.1.2.1 + 2100, σ.1.2.2).2.1 ∧ Sat false (d + 1) 58 (σ.1.1 + 9, σ.1.2.1 + 2100, σ.1.2.2) Q 76 [some (vr 8 i)] [Sum.inr (Sum.inr (some (fa h.1.1))), vr 8 i] (zap h (fa h.1.1).1 (fa h.1.1).2 40))
    rw [e]
    refine ⟨nn0 40 (by omega), rfl, by show _ ≤ σ.1.1 + 9; omega, by show _ ≤ σ.1.2.1 + 2100; omega, ?_⟩
    refine wp_ok (cut := [79]) ma_58 rfl 1 _ _ _ _ ?_
    show (cidx 8 i < (zap (h) 16 i 40).1.1 ∧ Sat false (d + 1) 58 (σ.1.1 + 9, σ.1.2.1 + 2100, σ.1.2.2) Q 79 [some (vr 8 i)] [] (setR (zap (h) 16 i 40) 8 i 9 (some (16, i))))
    exact ⟨by show _ < h.1.1 + 1; omega, s8 _ (mk_R (mk_z (k) (by omega) (by omega) 40) (by decide))⟩
  have s6 : ∀ h, MkI 9 σ h 8 i [(0, 9), (1, 10), (3, 11), (4, 12), (5, 13), (6, 14)] 6 1980 → Sat false (d + 1) 58 (σ.1.1 + 9, σ.1.2.1 + 2100, σ.1.2.2) Q 58 [some (vr 8 i)] [] h := by
    intro h k
    have c1 : h.1.1 = σ.1.1 + 6 := congrArg Prod.fst k.2.2.2
    have c2 : h.1.2.1 = σ.1.2.1 + 1980 := congrArg (fun q => q.2.1) k.2.2.2
    have e : fa h.1.1 = (15, i) := by rw [c1]; exact hfa 6 (by omega)
    refine wp_ok (cut := [68]) ma_58 rfl 6 _ _ _ _ ?_
    show (cidx 8 i < h.1.1 ∧ (¬ (nI 40) < 0 ∧ fkd (fa h.1.1).1 = (20, 40) ∧ h.1.1 + 1 ≤ (σ.1.1 + 9, σ.1.2.1 + 2100, σ.1.2.2).1 ∧ h.1.2.1 + 40 ≤ (σ.1.1 + 9, σ.1.2.1 + 2100, σ.1.2.2).2.1 ∧ Sat false (d + 1) 58 (σ.1.1 + 9, σ.1.2.1 + 2100, σ.1.2.2) Q 68 [some (vr 8 i)] [Sum.inr (Sum.inr (some (fa h.1.1))), vr 8 i] (zap (setI h 8 i 7 (nI 0)) (fa h.1.1).1 (fa h.1.1).2 40)))
    rw [e]
    refine ⟨by omega, nn0 40 (by omega), rfl, by show _ ≤ σ.1.1 + 9; omega, by show _ ≤ σ.1.2.1 + 2100; omega, ?_⟩
    refine wp_ok (cut := [71]) ma_58 rfl 1 _ _ _ _ ?_
    show (cidx 8 i < (zap (setI (h) 8 i 7 (nI 0)) 15 i 40).1.1 ∧ Sat false (d + 1) 58 (σ.1.1 + 9, σ.1.2.1 + 2100, σ.1.2.2) Q 71 [some (vr 8 i)] [] (setR (zap (setI (h) 8 i 7 (nI 0)) 15 i 40) 8 i 8 (some (15, i))))
    exact ⟨by show _ < h.1.1 + 1; omega, s7 _ (mk_R (mk_z (mk_I (k) (Or.inr rfl)) (by omega) (by omega) 40) (by decide))⟩
  have s5 : ∀ h, MkI 9 σ h 8 i [(0, 9), (1, 10), (3, 11), (4, 12), (5, 13)] 5 1968 → Sat false (d + 1) 58 (σ.1.1 + 9, σ.1.2.1 + 2100, σ.1.2.2) Q 50 [some (vr 8 i)] [] h := by
    intro h k
    have c1 : h.1.1 = σ.1.1 + 5 := congrArg Prod.fst k.2.2.2
    have c2 : h.1.2.1 = σ.1.2.1 + 1968 := congrArg (fun q => q.2.1) k.2.2.2
    have e : fa h.1.1 = (14, i) := by rw [c1]; exact hfa 5 (by omega)
    refine wp_ok (cut := [55]) ma_58 rfl 3 _ _ _ _ ?_
    show (¬ (nI 12) < 0 ∧ fkd (fa h.1.1).1 = (22, 12) ∧ h.1.1 + 1 ≤ (σ.1.1 + 9, σ.1.2.1 + 2100, σ.1.2.2).1 ∧ h.1.2.1 + 12 ≤ (σ.1.1 + 9, σ.1.2.1 + 2100, σ.1.2.2).2.1 ∧ Sat false (d + 1) 58 (σ.1.1 + 9, σ.1.2.1 + 2100, σ.1.2.2) Q 55 [some (vr 8 i)] [Sum.inr (Sum.inr (some (fa h.1.1))), vr 8 i] (zap h (fa h.1.1).1 (fa h.1.1).2 12))
    rw [e]
    refine ⟨nn0 12 (by omega), rfl, by show _ ≤ σ.1.1 + 9; omega, by show _ ≤ σ.1.2.1 + 2100; omega, ?_⟩
    refine wp_ok (cut := [58]) ma_58 rfl 1 _ _ _ _ ?_
    show (cidx 8 i < (zap (h) 14 i 12).1.1 ∧ Sat false (d + 1) 58 (σ.1.1 + 9, σ.1.2.1 + 2100, σ.1.2.2) Q 58 [some (vr 8 i)] [] (setR (zap (h) 14 i 12) 8 i 6 (some (14, i))))
    exact ⟨by show _ < h.1.1 + 1; omega, s6 _ (mk_R (mk_z (k) (by omega) (by omega) 12) (by decide))⟩
  have s4 : ∀ h, MkI 9 σ h 8 i [(0, 9), (1, 10), (3, 11), (4, 12)] 4 1956 → Sat false (d + 1) 58 (σ.1.1 + 9, σ.1.2.1 + 2100, σ.1.2.2) Q 42 [some (vr 8 i)] [] h := by
    intro h k
    have c1 : h.1.1 = σ.1.1 + 4 := congrArg Prod.fst k.2.2.2
    have c2 : h.1.2.1 = σ.1.2.1 + 1956 := congrArg (fun q => q.2.1) k.2.2.2
    have e : fa h.1.1 = (13, i) := by rw [c1]; exact hfa 4 (by omega)
    refine wp_ok (cut := [47]) ma_58 rfl 3 _ _ _ _ ?_
    show (¬ (nI 12) < 0 ∧ fkd (fa h.1.1).1 = (20, 12) ∧ h.1.1 + 1 ≤ (σ.1.1 + 9, σ.1.2.1 + 2100, σ.1.2.2).1 ∧ h.1.2.1 + 12 ≤ (σ.1.1 + 9, σ.1.2.1 + 2100, σ.1.2.2).2.1 ∧ Sat false (d + 1) 58 (σ.1.1 + 9, σ.1.2.1 + 2100, σ.1.2.2) Q 47 [some (vr 8 i)] [Sum.inr (Sum.inr (some (fa h.1.1))), vr 8 i] (zap h (fa h.1.1).1 (fa h.1.1).2 12))
    rw [e]
    refine ⟨nn0 12 (by omega), rfl, by show _ ≤ σ.1.1 + 9; omega, by show _ ≤ σ.1.2.1 + 2100; omega, ?_⟩
    refine wp_ok (cut := [50]) ma_58 rfl 1 _ _ _ _ ?_
    show (cidx 8 i < (zap (h) 13 i 12).1.1 ∧ Sat false (d + 1) 58 (σ.1.1 + 9, σ.1.2.1 + 2100, σ.1.2.2) Q 50 [some (vr 8 i)] [] (setR (zap (h) 13 i 12) 8 i 5 (some (13, i))))
    exact ⟨by show _ < h.1.1 + 1; omega, s5 _ (mk_R (mk_z (k) (by omega) (by omega) 12) (by decide))⟩
  have s3 : ∀ h, MkI 9 σ h 8 i [(0, 9), (1, 10), (3, 11)] 3 1944 → Sat false (d + 1) 58 (σ.1.1 + 9, σ.1.2.1 + 2100, σ.1.2.2) Q 34 [some (vr 8 i)] [] h := by
    intro h k
    have c1 : h.1.1 = σ.1.1 + 3 := congrArg Prod.fst k.2.2.2
    have c2 : h.1.2.1 = σ.1.2.1 + 1944 := congrArg (fun q => q.2.1) k.2.2.2
    have e : fa h.1.1 = (12, i) := by rw [c1]; exact hfa 3 (by omega)
    refine wp_ok (cut := [39]) ma_58 rfl 3 _ _ _ _ ?_
    show (¬ (nI 12) < 0 ∧ fkd (fa h.1.1).1 = (22, 12) ∧ h.1.1 + 1 ≤ (σ.1.1 + 9, σ.1.2.1 + 2100, σ.1.2.2).1 ∧ h.1.2.1 + 12 ≤ (σ.1.1 + 9, σ.1.2.1 + 2100, σ.1.2.2).2.1 ∧ Sat false (d + 1) 58 (σ.1.1 + 9, σ.1.2.1 + 2100, σ.1.2.2) Q 39 [some (vr 8 i)] [Sum.inr (Sum.inr (some (fa h.1.1))), vr 8 i] (zap h (fa h.1.1).1 (fa h.1.1).2 12))
    rw [e]
    refine ⟨nn0 12 (by omega), rfl, by show _ ≤ σ.1.1 + 9; omega, by show _ ≤ σ.1.2.1 + 2100; omega, ?_⟩
    refine wp_ok (cut := [42]) ma_58 rfl 1 _ _ _ _ ?_
    show (cidx 8 i < (zap (h) 12 i 12).1.1 ∧ Sat false (d + 1) 58 (σ.1.1 + 9, σ.1.2.1 + 2100, σ.1.2.2) Q 42 [some (vr 8 i)] [] (setR (zap (h) 12 i 12) 8 i 4 (some (12, i))))
    exact ⟨by show _ < h.1.1 + 1; omega, s4 _ (mk_R (mk_z (k) (by omega) (by omega) 12) (by decide))⟩
  have s2 : ∀ h, MkI 9 σ h 8 i [(0, 9), (1, 10)] 2 1932 → Sat false (d + 1) 58 (σ.1.1 + 9, σ.1.2.1 + 2100, σ.1.2.2) Q 21 [some (vr 8 i)] [] h := by
    intro h k
    have c1 : h.1.1 = σ.1.1 + 2 := congrArg Prod.fst k.2.2.2
    have c2 : h.1.2.1 = σ.1.2.1 + 1932 := congrArg (fun q => q.2.1) k.2.2.2
    have e : fa h.1.1 = (11, i) := by rw [c1]; exact hfa 2 (by omega)
    refine wp_ok (cut := [31]) ma_58 rfl 6 _ _ _ _ ?_
    show (cidx 8 i < h.1.1 ∧ (¬ (nI 12) < 0 ∧ fkd (fa h.1.1).1 = (20, 12) ∧ h.1.1 + 1 ≤ (σ.1.1 + 9, σ.1.2.1 + 2100, σ.1.2.2).1 ∧ h.1.2.1 + 12 ≤ (σ.1.1 + 9, σ.1.2.1 + 2100, σ.1.2.2).2.1 ∧ Sat false (d + 1) 58 (σ.1.1 + 9, σ.1.2.1 + 2100, σ.1.2.2) Q 31 [some (vr 8 i)] [Sum.inr (Sum.inr (some (fa h.1.1))), vr 8 i] (zap (setI h 8 i 2 (nI 0)) (fa h.1.1).1 (fa h.1.1).2 12)))
    rw [e]
    refine ⟨by omega, nn0 12 (by omega), rfl, by show _ ≤ σ.1.1 + 9; omega, by show _ ≤ σ.1.2.1 + 2100; omega, ?_⟩
    refine wp_ok (cut := [34]) ma_58 rfl 1 _ _ _ _ ?_
    show (cidx 8 i < (zap (setI (h) 8 i 2 (nI 0)) 11 i 12).1.1 ∧ Sat false (d + 1) 58 (σ.1.1 + 9, σ.1.2.1 + 2100, σ.1.2.2) Q 34 [some (vr 8 i)] [] (setR (zap (setI (h) 8 i 2 (nI 0)) 11 i 12) 8 i 3 (some (11, i))))
    exact ⟨by show _ < h.1.1 + 1; omega, s3 _ (mk_R (mk_z (mk_I (k) (Or.inr rfl)) (by omega) (by omega) 12) (by decide))⟩
  have s1 : ∀ h, MkI 9 σ h 8 i [(0, 9)] 1 1920 → Sat false (d + 1) 58 (σ.1.1 + 9, σ.1.2.1 + 2100, σ.1.2.2) Q 13 [some (vr 8 i)] [] h := by
    intro h k
    have c1 : h.1.1 = σ.1.1 + 1 := congrArg Prod.fst k.2.2.2
    have c2 : h.1.2.1 = σ.1.2.1 + 1920 := congrArg (fun q => q.2.1) k.2.2.2
    have e : fa h.1.1 = (10, i) := by rw [c1]; exact hfa 1 (by omega)
    refine wp_ok (cut := [18]) ma_58 rfl 3 _ _ _ _ ?_
    show (¬ (nI 12) < 0 ∧ fkd (fa h.1.1).1 = (20, 12) ∧ h.1.1 + 1 ≤ (σ.1.1 + 9, σ.1.2.1 + 2100, σ.1.2.2).1 ∧ h.1.2.1 + 12 ≤ (σ.1.1 + 9, σ.1.2.1 + 2100, σ.1.2.2).2.1 ∧ Sat false (d + 1) 58 (σ.1.1 + 9, σ.1.2.1 + 2100, σ.1.2.2) Q 18 [some (vr 8 i)] [Sum.inr (Sum.inr (some (fa h.1.1))), vr 8 i] (zap h (fa h.1.1).1 (fa h.1.1).2 12))
    rw [e]
    refine ⟨nn0 12 (by omega), rfl, by show _ ≤ σ.1.1 + 9; omega, by show _ ≤ σ.1.2.1 + 2100; omega, ?_⟩
    refine wp_ok (cut := [21]) ma_58 rfl 1 _ _ _ _ ?_
    show (cidx 8 i < (zap (h) 10 i 12).1.1 ∧ Sat false (d + 1) 58 (σ.1.1 + 9, σ.1.2.1 + 2100, σ.1.2.2) Q 21 [some (vr 8 i)] [] (setR (zap (h) 10 i 12) 8 i 1 (some (10, i))))
    exact ⟨by show _ < h.1.1 + 1; omega, s2 _ (mk_R (mk_z (k) (by omega) (by omega) 12) (by decide))⟩
  have s0 : ∀ h, MkI 9 σ h 8 i [] 0 0 → Sat false (d + 1) 58 (σ.1.1 + 9, σ.1.2.1 + 2100, σ.1.2.2) Q 0 [some (vr 8 i)] [] h := by
    intro h k
    have c1 : h.1.1 = σ.1.1 + 0 := congrArg Prod.fst k.2.2.2
    have c2 : h.1.2.1 = σ.1.2.1 + 0 := congrArg (fun q => q.2.1) k.2.2.2
    have e : fa h.1.1 = (9, i) := by rw [c1]; exact hfa 0 (by omega)
    refine wp_ok (cut := [10]) ma_58 rfl 5 _ _ _ _ ?_
    show (¬ (nI 1920) < 0 ∧ fkd (fa h.1.1).1 = (21, 1920) ∧ h.1.1 + 1 ≤ (σ.1.1 + 9, σ.1.2.1 + 2100, σ.1.2.2).1 ∧ h.1.2.1 + 1920 ≤ (σ.1.1 + 9, σ.1.2.1 + 2100, σ.1.2.2).2.1 ∧ Sat false (d + 1) 58 (σ.1.1 + 9, σ.1.2.1 + 2100, σ.1.2.2) Q 10 [some (vr 8 i)] [Sum.inr (Sum.inr (some (fa h.1.1))), vr 8 i] (zap h (fa h.1.1).1 (fa h.1.1).2 1920))
    rw [e]
    refine ⟨nn0 1920 (by omega), rfl, by show _ ≤ σ.1.1 + 9; omega, by show _ ≤ σ.1.2.1 + 2100; omega, ?_⟩
    refine wp_ok (cut := [13]) ma_58 rfl 1 _ _ _ _ ?_
    show (cidx 8 i < (zap (h) 9 i 1920).1.1 ∧ Sat false (d + 1) 58 (σ.1.1 + 9, σ.1.2.1 + 2100, σ.1.2.2) Q 13 [some (vr 8 i)] [] (setR (zap (h) 9 i 1920) 8 i 0 (some (9, i))))
    exact ⟨by show _ < h.1.1 + 1; omega, s1 _ (mk_R (mk_z (k) (by omega) (by omega) 1920) (by decide))⟩
  exact s0 σ (mk_0 σ 8 i)
set_option maxRecDepth 6000 in
theorem i_Expansion (d : Nat) {σ : Hp} {p : Nat} (hp : p < 12) (hc : 32 + 17 * p < σ.1.1) (hfa : ∀ t, t < 5 → fa (σ.1.1 + t) = (33 + t, p)) : MV (d + 1) 7 [vr 32 p] σ (σ.1.1 + 5, σ.1.2.1 + 453, σ.1.2.2) (fun h => MkI 5 σ h 32 p [(3, 33), (4, 34), (5, 35), (6, 36), (7, 37)] 5 453) := by
  refine MV_of mt_7 (Nat.le_of_ble_eq_true rfl) ⟨Nat.le_add_right _ _, Nat.le_add_right _ _⟩ fun Q hq => ?_
  have s5 : ∀ h, MkI 5 σ h 32 p [(3, 33), (4, 34), (5, 35), (6, 36), (7, 37)] 5 453 → Sat false (d + 1) 7 (σ.1.1 + 5, σ.1.2.1 + 453, σ.1.2.2) Q 59 [some (vr 32 p)] [] h := by
    intro h k
    have c1 : h.1.1 = σ.1.1 + 5 := congrArg Prod.fst k.2.2.2
    refine wp_ok (cut := []) ma_7 rfl 7 _ _ _ _ ?_
    show (p < 12 ∧ 32 + 17 * p < h.1.1 ∧ (p < 12 ∧ 32 + 17 * p < h.1.1 ∧ (Q none (setI (setI h 32 p 8 (nI 0)) 32 p 9 (nI 0)) ∧ h.1 = (σ.1.1 + 5, σ.1.2.1 + 453, σ.1.2.2))))
    exact ⟨hp, by omega, hp, by omega, hq _ (mk_I (mk_I (k) (Or.inr rfl)) (Or.inr rfl)), k.2.2.2⟩
  have s4 : ∀ h, MkI 5 σ h 32 p [(3, 33), (4, 34), (5, 35), (6, 36)] 4 400 → Sat false (d + 1) 7 (σ.1.1 + 5, σ.1.2.1 + 453, σ.1.2.2) Q 51 [some (vr 32 p)] [] h := by
    intro h k
    have c1 : h.1.1 = σ.1.1 + 4 := congrArg Prod.fst k.2.2.2
    have c2 : h.1.2.1 = σ.1.2.1 + 400 := congrArg (fun q => q.2.1) k.2.2.2
    have e : fa h.1.1 = (37, p) := by rw [c1]; exact hfa 4 (by omega)
    refine wp_ok (cut := [56]) ma_7 rfl 3 _ _ _ _ ?_
    show (¬ (nI 53) < 0 ∧ fkd (fa h.1.1).1 = (20, 53) ∧ h.1.1 + 1 ≤ (σ.1.1 + 5, σ.1.2.1 + 453, σ.1.2.2).1 ∧ h.1.2.1 + 53 ≤ (σ.1.1 + 5, σ.1.2.1 + 453, σ.1.2.2).2.1 ∧ Sat false (d + 1) 7 (σ.1.1 + 5, σ.1.2.1 + 453, σ.1.2.2) Q 56 [some (vr 32 p)] [Sum.inr (Sum.inr (some (fa h.1.1))), vr 32 p] (zap h (fa h.1.1).1 (fa h.1.1).2 53))
    rw [e]
    refine ⟨nn0 53 (by omega), rfl, by show _ ≤ σ.1.1 + 5; omega, by show _ ≤ σ.1.2.1 + 453; omega, ?_⟩
    refine wp_ok (cut := [59]) ma_7 rfl 1 _ _ _ _ ?_
    show (p < 12 ∧ 32 + 17 * p < (zap (h) 37 p 53).1.1 ∧ Sat false (d + 1) 7 (σ.1.1 + 5, σ.1.2.1 + 453, σ.1.2.2) Q 59 [some (vr 32 p)] [] (setR (zap (h) 37 p 53) 32 p 7 (some (37, p))))
    exact ⟨hp, by show _ < h.1.1 + 1; omega, s5 _ (mk_R (mk_z (k) (by omega) (by omega) 53) (by decide))⟩
  have s3 : ∀ h, MkI 5 σ h 32 p [(3, 33), (4, 34), (5, 35)] 3 300 → Sat false (d + 1) 7 (σ.1.1 + 5, σ.1.2.1 + 453, σ.1.2.2) Q 43 [some (vr 32 p)] [] h := by
    intro h k
    have c1 : h.1.1 = σ.1.1 + 3 := congrArg Prod.fst k.2.2.2
    have c2 : h.1.2.1 = σ.1.2.1 + 300 := congrArg (fun q => q.2.1) k.2.2.2
    have e : fa h.1.1 = (36, p) := by rw [c1]; exact hfa 3 (by omega)
    refine wp_ok (cut := [48]) ma_7 rfl 3 _ _ _ _ ?_
    show (¬ (nI 100) < 0 ∧ fkd (fa h.1.1).1 = (20, 100) ∧ h.1.1 + 1 ≤ (σ.1.1 + 5, σ.1.2.1 + 453, σ.1.2.2).1 ∧ h.1.2.1 + 100 ≤ (σ.1.1 + 5, σ.1.2.1 + 453, σ.1.2.2).2.1 ∧ Sat false (d + 1) 7 (σ.1.1 + 5, σ.1.2.1 + 453, σ.1.2.2) Q 48 [some (vr 32 p)] [Sum.inr (Sum.inr (some (fa h.1.1))), vr 32 p] (zap h (fa h.1.1).1 (fa h.1.1).2 100))
    rw [e]
    refine ⟨nn0 100 (by omega), rfl, by show _ ≤ σ.1.1 + 5; omega, by show _ ≤ σ.1.2.1 + 453; omega, ?_⟩
    refine wp_ok (cut := [51]) ma_7 rfl 1 _ _ _ _ ?_
    show (p < 12 ∧ 32 + 17 * p < (zap (h) 36 p 100).1.1 ∧ Sat false (d + 1) 7 (σ.1.1 + 5, σ.1.2.1 + 453, σ.1.2.2) Q 51 [some (vr 32 p)] [] (setR (zap (h) 36 p 100) 32 p 6 (some (36, p))))
    exact ⟨hp, by show _ < h.1.1 + 1; omega, s4 _ (mk_R (mk_z (k) (by omega) (by omega) 100) (by decide))⟩
  have s2 : ∀ h, MkI 5 σ h 32 p [(3, 33), (4, 34)] 2 200 → Sat false (d + 1) 7 (σ.1.1 + 5, σ.1.2.1 + 453, σ.1.2.2) Q 35 [some (vr 32 p)] [] h := by
    intro h k
    have c1 : h.1.1 = σ.1.1 + 2 := congrArg Prod.fst k.2.2.2
    have c2 : h.1.2.1 = σ.1.2.1 + 200 := congrArg (fun q => q.2.1) k.2.2.2
    have e : fa h.1.1 = (35, p) := by rw [c1]; exact hfa 2 (by omega)
    refine wp_ok (cut := [40]) ma_7 rfl 3 _ _ _ _ ?_
    show (¬ (nI 100) < 0 ∧ fkd (fa h.1.1).1 = (22, 100) ∧ h.1.1 + 1 ≤ (σ.1.1 + 5, σ.1.2.1 + 453, σ.1.2.2).1 ∧ h.1.2.1 + 100 ≤ (σ.1.1 + 5, σ.1.2.1 + 453, σ.1.2.2).2.1 ∧ Sat false (d + 1) 7 (σ.1.1 + 5, σ.1.2.1 + 453, σ.1.2.2) Q 40 [some (vr 32 p)] [Sum.inr (Sum.inr (some (fa h.1.1))), vr 32 p] (zap h (fa h.1.1).1 (fa h.1.1).2 100))
    rw [e]
    refine ⟨nn0 100 (by omega), rfl, by show _ ≤ σ.1.1 + 5; omega, by show _ ≤ σ.1.2.1 + 453; omega, ?_⟩
    refine wp_ok (cut := [43]) ma_7 rfl 1 _ _ _ _ ?_
    show (p < 12 ∧ 32 + 17 * p < (zap (h) 35 p 100).1.1 ∧ Sat false (d + 1) 7 (σ.1.1 + 5, σ.1.2.1 + 453, σ.1.2.2) Q 43 [some (vr 32 p)] [] (setR (zap (h) 35 p 100) 32 p 5 (some (35, p))))
    exact ⟨hp, by show _ < h.1.1 + 1; omega, s3 _ (mk_R (mk_z (k) (by omega) (by omega) 100) (by decide))⟩
  have s1 : ∀ h, MkI 5 σ h 32 p [(3, 33)] 1 100 → Sat false (d + 1) 7 (σ.1.1 + 5, σ.1.2.1 + 453, σ.1.2.2) Q 27 [some (vr 32 p)] [] h := by
    intro h k
    have c1 : h.1.1 = σ.1.1 + 1 := congrArg Prod.fst k.2.2.2
    have c2 : h.1.2.1 = σ.1.2.1 + 100 := congrArg (fun q => q.2.1) k.2.2.2
    have e : fa h.1.1 = (34, p) := by rw [c1]; exact hfa 1 (by omega)
    refine wp_ok (cut := [32]) ma_7 rfl 3 _ _ _ _ ?_
    show (¬ (nI 100) < 0 ∧ fkd (fa h.1.1).1 = (20, 100) ∧ h.1.1 + 1 ≤ (σ.1.1 + 5, σ.1.2.1 + 453, σ.1.2.2).1 ∧ h.1.2.1 + 100 ≤ (σ.1.1 + 5, σ.1.2.1 + 453, σ.1.2.2).2.1 ∧ Sat false (d + 1) 7 (σ.1.1 + 5, σ.1.2.1 + 453, σ.1.2.2) Q 32 [some (vr 32 p)] [Sum.inr (Sum.inr (some (fa h.1.1))), vr 32 p] (zap h (fa h.1.1).1 (fa h.1.1).2 100))
    rw [e]
    refine ⟨nn0 100 (by omega), rfl, by show _ ≤ σ.1.1 + 5; omega, by show _ ≤ σ.1.2.1 + 453; omega, ?_⟩
    refine wp_ok (cut := [35]) ma_7 rfl 1 _ _ _ _ ?_
    show (p < 12 ∧ 32 + 17 * p < (zap (h) 34 p 100).1.1 ∧ Sat false (d + 1) 7 (σ.1.1 + 5, σ.1.2.1 + 453, σ.1.2.2) Q 35 [some (vr 32 p)] [] (setR (zap (h) 34 p 100) 32 p 4 (some (34, p))))
    exact ⟨hp, by show _ < h.1.1 + 1; omega, s2 _ (mk_R (mk_z (k) (by omega) (by omega) 100) (by decide))⟩
  have s0 : ∀ h, MkI 5 σ h 32 p [] 0 0 → Sat false (d + 1) 7 (σ.1.1 + 5, σ.1.2.1 + 453, σ.1.2.2) Q 0 [some (vr 32 p)] [] h := by
    intro h k
    have c1 : h.1.1 = σ.1.1 + 0 := congrArg Prod.fst k.2.2.2
    have c2 : h.1.2.1 = σ.1.2.1 + 0 := congrArg (fun q => q.2.1) k.2.2.2
    have e : fa h.1.1 = (33, p) := by rw [c1]; exact hfa 0 (by omega)
    refine wp_ok (cut := [24]) ma_7 rfl 14 _ _ _ _ ?_
    show (p < 12 ∧ 32 + 17 * p < h.1.1 ∧ (p < 12 ∧ 32 + 17 * p < h.1.1 ∧ (p < 12 ∧ 32 + 17 * p < h.1.1 ∧ (¬ (nI 100) < 0 ∧ fkd (fa h.1.1).1 = (20, 100) ∧ h.1.1 + 1 ≤ (σ.1.1 + 5, σ.1.2.1 + 453, σ.1.2.2).1 ∧ h.1.2.1 + 100 ≤ (σ.1.1 + 5, σ.1.2.1 + 453, σ.1.2.2).2.1 ∧ Sat false (d + 1) 7 (σ.1.1 + 5, σ.1.2.1 + 453, σ.1.2.2) Q 24 [some (vr 32 p)] [Sum.inr (Sum.inr (some (fa h.1.1))), vr 32 p] (zap (setI (setI (setI h 32 p 0 (nI 0)) 32 p 1 (nI 0)) 32 p 2 (nI 0)) (fa h.1.1).1 (fa h.1.1).2 100)))))
    rw [e]
    refine ⟨hp, by omega, hp, by omega, hp, by omega, nn0 100 (by omega), rfl, by show _ ≤ σ.1.1 + 5; omega, by show _ ≤ σ.1.2.1 + 453; omega, ?_⟩
    refine wp_ok (cut := [27]) ma_7 rfl 1 _ _ _ _ ?_
    show (p < 12 ∧ 32 + 17 * p < (zap (setI (setI (setI (h) 32 p 0 (nI 0)) 32 p 1 (nI 0)) 32 p 2 (nI 0)) 33 p 100).1.1 ∧ Sat false (d + 1) 7 (σ.1.1 + 5, σ.1.2.1 + 453, σ.1.2.2) Q 27 [some (vr 32 p)] [] (setR (zap (setI (setI (setI (h) 32 p 0 (nI 0)) 32 p 1 (nI 0)) 32 p 2 (nI 0)) 33 p 100) 32 p 3 (some (33, p))))
    exact ⟨hp, by show _ < h.1.1 + 1; omega, s1 _ (mk_R (mk_z (mk_I (mk_I (mk_I (k) (Or.inr rfl)) (Or.inr rfl)) (Or.inr rfl)) (by omega) (by omega) 100) (by decide))⟩
  exact s0 σ (mk_0 σ 32 p)
set_option maxRecDepth 6000 in
theorem i_Outline (d : Nat) {σ : Hp} {p : Nat} (hp : p < 12) (hc : 21 + 17 * p < σ.1.1) (hfa : ∀ t, t < 10 → fa (σ.1.1 + t) = (22 + t, p)) : MV (d + 1) 21 [vr 21 p, vi (nI p)] σ (σ.1.1 + 10, σ.1.2.1 + 586, σ.1.2.2) (fun h => MkI 10 σ h 21 p [(2, 22), (3, 23), (4, 24), (5, 25), (9, 26), (10, 27), (11, 28), (12, 29), (14, 30), (15, 31)] 10 586 ∧ hI h 21 p 0 = nI p) := by
  refine MV_of mt_21 (Nat.le_of_ble_eq_true rfl) ⟨Nat.le_add_right _ _, Nat.le_add_right _ _⟩ fun Q hq => ?_
  have s10 : ∀ h, MkI 10 σ h 21 p [(2, 22), (3, 23), (4, 24), (5, 25), (9, 26), (10, 27), (11, 28), (12, 29), (14, 30), (15, 31)] 10 586 → Sat false (d + 1) 21 (σ.1.1 + 10, σ.1.2.1 + 586, σ.1.2.2) Q 109 [some (vr 21 p), some (vi (nI p))] [] h := by
    intro h k
    have c1 : h.1.1 = σ.1.1 + 10 := congrArg Prod.fst k.2.2.2
    refine wp_ok (cut := []) ma_21 rfl 4 _ _ _ _ ?_
    show (p < 12 ∧ 21 + 17 * p < h.1.1 ∧ (Q none (setI h 21 p 0 (nI p)) ∧ h.1 = (σ.1.1 + 10, σ.1.2.1 + 586, σ.1.2.2)))
    exact ⟨hp, by omega, hq _ ⟨mk_I (k) (Or.inl (by unfold NZ; omega)), hI_s _ _ _ _ _⟩, k.2.2.2⟩
  have s9 : ∀ h, MkI 10 σ h 21 p [(2, 22), (3, 23), (4, 24), (5, 25), (9, 26), (10, 27), (11, 28), (12, 29), (14, 30)] 9 533 → Sat false (d + 1) 21 (σ.1.1 + 10, σ.1.2.1 + 586, σ.1.2.2) Q 101 [some (vr 21 p), some (vi (nI p))] [] h := by
    intro h k
    have c1 : h.1.1 = σ.1.1 + 9 := congrArg Prod.fst k.2.2.2
    have c2 : h.1.2.1 = σ.1.2.1 + 533 := congrArg (fun q => q.2.1) k.2.2.2
    have e : fa h.1.1 = (31, p) := by rw [c1]; exact hfa 9 (by omega)
    refine wp_ok (cut := [106]) ma_21 rfl 3 _ _ _ _ ?_
    show (¬ (nI 53) < 0 ∧ fkd (fa h.1.1).1 = (20, 53) ∧ h.1.1 + 1 ≤ (σ.1.1 + 10, σ.1.2.1 + 586, σ.1.2.2).1 ∧ h.1.2.1 + 53 ≤ (σ.1.1 + 10, σ.1.2.1 + 586, σ.1.2.2).2.1 ∧ Sat false (d + 1) 21 (σ.1.1 + 10, σ.1.2.1 + 586, σ.1.2.2) Q 106 [some (vr 21 p), some (vi (nI p))] [Sum.inr (Sum.inr (some (fa h.1.1))), vr 21 p] (zap h (fa h.1.1).1 (fa h.1.1).2 53))
    rw [e]
    refine ⟨nn0 53 (by omega), rfl, by show _ ≤ σ.1.1 + 10; omega, by show _ ≤ σ.1.2.1 + 586; omega, ?_⟩
    refine wp_ok (cut := [109]) ma_21 rfl 1 _ _ _ _ ?_
    show (p < 12 ∧ 21 + 17 * p < (zap (h) 31 p 53).1.1 ∧ Sat false (d + 1) 21 (σ.1.1 + 10, σ.1.2.1 + 586, σ.1.2.2) Q 109 [some (vr 21 p), some (vi (nI p))] [] (setR (zap (h) 31 p 53) 21 p 15 (some (31, p))))
    exact ⟨hp, by show _ < h.1.1 + 1; omega, s10 _ (mk_R (mk_z (k) (by omega) (by omega) 53) (by decide))⟩
  have s8 : ∀ h, MkI 10 σ h 21 p [(2, 22), (3, 23), (4, 24), (5, 25), (9, 26), (10, 27), (11, 28), (12, 29)] 8 480 → Sat false (d + 1) 21 (σ.1.1 + 10, σ.1.2.1 + 586, σ.1.2.2) Q 88 [some (vr 21 p), some (vi (nI p))] [] h := by
    intro h k
    have c1 : h.1.1 = σ.1.1 + 8 := congrArg Prod.fst k.2.2.2
    have c2 : h.1.2.1 = σ.1.2.1 + 480 := congrArg (fun q => q.2.1) k.2.2.2
    have e : fa h.1.1 = (30, p) := by rw [c1]; exact hfa 8 (by omega)
    refine wp_ok (cut := [98]) ma_21 rfl 6 _ _ _ _ ?_
    show (p < 12 ∧ 21 + 17 * p < h.1.1 ∧ (¬ (nI 53) < 0 ∧ fkd (fa h.1.1).1 = (20, 53) ∧ h.1.1 + 1 ≤ (σ.1.1 + 10, σ.1.2.1 + 586, σ.1.2.2).1 ∧ h.1.2.1 + 53 ≤ (σ.1.1 + 10, σ.1.2.1 + 586, σ.1.2.2).2.1 ∧ Sat false (d + 1) 21 (σ.1.1 + 10, σ.1.2.1 + 586, σ.1.2.2) Q 98 [some (vr 21 p), some (vi (nI p))] [Sum.inr (Sum.inr (some (fa h.1.1))), vr 21 p] (zap (setI h 21 p 13 (nI 0)) (fa h.1.1).1 (fa h.1.1).2 53)))
    rw [e]
    refine ⟨hp, by omega, nn0 53 (by omega), rfl, by show _ ≤ σ.1.1 + 10; omega, by show _ ≤ σ.1.2.1 + 586; omega, ?_⟩
    refine wp_ok (cut := [101]) ma_21 rfl 1 _ _ _ _ ?_
    show (p < 12 ∧ 21 + 17 * p < (zap (setI (h) 21 p 13 (nI 0)) 30 p 53).1.1 ∧ Sat false (d + 1) 21 (σ.1.1 + 10, σ.1.2.1 + 586, σ.1.2.2) Q 101 [some (vr 21 p), some (vi (nI p))] [] (setR (zap (setI (h) 21 p 13 (nI 0)) 30 p 53) 21 p 14 (some (30, p))))
    exact ⟨hp, by show _ < h.1.1 + 1; omega, s9 _ (mk_R (mk_z (mk_I (k) (Or.inr rfl)) (by omega) (by omega) 53) (by decide))⟩
  have s7 : ∀ h, MkI 10 σ h 21 p [(2, 22), (3, 23), (4, 24), (5, 25), (9, 26), (10, 27), (11, 28)] 7 440 → Sat false (d + 1) 21 (σ.1.1 + 10, σ.1.2.1 + 586, σ.1.2.2) Q 80 [some (vr 21 p), some (vi (nI p))] [] h := by
    intro h k
    have c1 : h.1.1 = σ.1.1 + 7 := congrArg Prod.fst k.2.2.2
    have c2 : h.1.2.1 = σ.1.2.1 + 440 := congrArg (fun q => q.2.1) k.2.2.2
    have e : fa h.1.1 = (29, p) := by rw [c1]; exact hfa 7 (by omega)
    refine wp_ok (cut := [85]) ma_21 rfl 3 _ _ _ _ ?_
    show (¬ (nI 40) < 0 ∧ fkd (fa h.1.1).1 = (20, 40) ∧ h.1.1 + 1 ≤ (σ.1.1 + 10, σ.1.2.1 + 586, σ.1.2.2).1 ∧ h.1.2.1 + 40 ≤ (σ.1.1 + 10, σ.1.2.1 + 586, σ.1.2.2).2.1 ∧ Sat false (d + 1) 21 (σ.1.1 + 10, σ.1.2.1 + 586, σ.1.2.2) Q 85 [some (vr 21 p), some (vi (nI p))] [Sum.inr (Sum.inr (some (fa h.1.1))), vr 21 p] (zap h (fa h.1.1).1 (fa h.1.1).2 40))
    rw [e]
    refine ⟨nn0 40 (by omega), rfl, by show _ ≤ σ.1.1 + 10; omega, by show _ ≤ σ.1.2.1 + 586; omega, ?_⟩
    refine wp_ok (cut := [88]) ma_21 rfl 1 _ _ _ _ ?_
    show (p < 12 ∧ 21 + 17 * p < (zap (h) 29 p 40).1.1 ∧ Sat false (d + 1) 21 (σ.1.1 + 10, σ.1.2.1 + 586, σ.1.2.2) Q 88 [some (vr 21 p), some (vi (nI p))] [] (setR (zap (h) 29 p 40) 21 p 12 (some (29, p))))
    exact ⟨hp, by show _ < h.1.1 + 1; omega, s8 _ (mk_R (mk_z (k) (by omega) (by omega) 40) (by decide))⟩
  have s6 : ∀ h, MkI 10 σ h 21 p [(2, 22), (3, 23), (4, 24), (5, 25), (9, 26), (10, 27)] 6 400 → Sat false (d + 1) 21 (σ.1.1 + 10, σ.1.2.1 + 586, σ.1.2.2) Q 72 [some (vr 21 p), some (vi (nI p))] [] h := by
    intro h k
    have c1 : h.1.1 = σ.1.1 + 6 := congrArg Prod.fst k.2.2.2
    have c2 : h.1.2.1 = σ.1.2.1 + 400 := congrArg (fun q => q.2.1) k.2.2.2
    have e : fa h.1.1 = (28, p) := by rw [c1]; exact hfa 6 (by omega)
    refine wp_ok (cut := [77]) ma_21 rfl 3 _ _ _ _ ?_
    show (¬ (nI 40) < 0 ∧ fkd (fa h.1.1).1 = (20, 40) ∧ h.1.1 + 1 ≤ (σ.1.1 + 10, σ.1.2.1 + 586, σ.1.2.2).1 ∧ h.1.2.1 + 40 ≤ (σ.1.1 + 10, σ.1.2.1 + 586, σ.1.2.2).2.1 ∧ Sat false (d + 1) 21 (σ.1.1 + 10, σ.1.2.1 + 586, σ.1.2.2) Q 77 [some (vr 21 p), some (vi (nI p))] [Sum.inr (Sum.inr (some (fa h.1.1))), vr 21 p] (zap h (fa h.1.1).1 (fa h.1.1).2 40))
    rw [e]
    refine ⟨nn0 40 (by omega), rfl, by show _ ≤ σ.1.1 + 10; omega, by show _ ≤ σ.1.2.1 + 586; omega, ?_⟩
    refine wp_ok (cut := [80]) ma_21 rfl 1 _ _ _ _ ?_
    show (p < 12 ∧ 21 + 17 * p < (zap (h) 28 p 40).1.1 ∧ Sat false (d + 1) 21 (σ.1.1 + 10, σ.1.2.1 + 586, σ.1.2.2) Q 80 [some (vr 21 p), some (vi (nI p))] [] (setR (zap (h) 28 p 40) 21 p 11 (some (28, p))))
    exact ⟨hp, by show _ < h.1.1 + 1; omega, s7 _ (mk_R (mk_z (k) (by omega) (by omega) 40) (by decide))⟩
  have s5 : ∀ h, MkI 10 σ h 21 p [(2, 22), (3, 23), (4, 24), (5, 25), (9, 26)] 5 360 → Sat false (d + 1) 21 (σ.1.1 + 10, σ.1.2.1 + 586, σ.1.2.2) Q 64 [some (vr 21 p), some (vi (nI p))] [] h := by
    intro h k
    have c1 : h.1.1 = σ.1.1 + 5 := congrArg Prod.fst k.2.2.2
    have c2 : h.1.2.1 = σ.1.2.1 + 360 := congrArg (fun q => q.2.1) k.2.2.2
    have e : fa h.1.1 = (27, p) := by rw [c1]; exact hfa 5 (by omega)
    refine wp_ok (cut := [69]) ma_21 rfl 3 _ _ _ _ ?_
    show (¬ (nI 40) < 0 ∧ fkd (fa h.1.1).1 = (22, 40) ∧ h.1.1 + 1 ≤ (σ.1.1 + 10, σ.1.2.1 + 586, σ.1.2.2).1 ∧ h.1.2.1 + 40 ≤ (σ.1.1 + 10, σ.1.2.1 + 586, σ.1.2.2).2.1 ∧ Sat false (d + 1) 21 (σ.1.1 + 10, σ.1.2.1 + 586, σ.1.2.2) Q 69 [some (vr 21 p), some (vi (nI p))] [Sum.inr (Sum.inr (some (fa h.1.1))), vr 21 p] (zap h (fa h.1.1).1 (fa h.1.1).2 40))
    rw [e]
    refine ⟨nn0 40 (by omega), rfl, by show _ ≤ σ.1.1 + 10; omega, by show _ ≤ σ.1.2.1 + 586; omega, ?_⟩
    refine wp_ok (cut := [72]) ma_21 rfl 1 _ _ _ _ ?_
    show (p < 12 ∧ 21 + 17 * p < (zap (h) 27 p 40).1.1 ∧ Sat false (d + 1) 21 (σ.1.1 + 10, σ.1.2.1 + 586, σ.1.2.2) Q 72 [some (vr 21 p), some (vi (nI p))] [] (setR (zap (h) 27 p 40) 21 p 10 (some (27, p))))
    exact ⟨hp, by show _ < h.1.1 + 1; omega, s6 _ (mk_R (mk_z (k) (by omega) (by omega) 40) (by decide))⟩
  have s4 : ∀ h, MkI 10 σ h 21 p [(2, 22), (3, 23), (4, 24), (5, 25)] 4 320 → Sat false (d + 1) 21 (σ.1.1 + 10, σ.1.2.1 + 586, σ.1.2.2) Q 41 [some (vr 21 p), some (vi (nI p))] [] h := by
    intro h k
    have c1 : h.1.1 = σ.1.1 + 4 := congrArg Prod.fst k.2.2.2
    have c2 : h.1.2.1 = σ.1.2.1 + 320 := congrArg (fun q => q.2.1) k.2.2.2
    have e : fa h.1.1 = (26, p) := by rw [c1]; exact hfa 4 (by omega)
    refine wp_ok (cut := [61]) ma_21 rfl 12 _ _ _ _ ?_
    show (p < 12 ∧ 21 + 17 * p < h.1.1 ∧ (p < 12 ∧ 21 + 17 * p < h.1.1 ∧ (p < 12 ∧ 21 + 17 * p < h.1.1 ∧ (¬ (nI 40) < 0 ∧ fkd (fa h.1.1).1 = (20, 40) ∧ h.1.1 + 1 ≤ (σ.1.1 + 10, σ.1.2.1 + 586, σ.1.2.2).1 ∧ h.1.2.1 + 40 ≤ (σ.1.1 + 10, σ.1.2.1 + 586, σ.1.2.2).2.1 ∧ Sat false (d + 1) 21 (σ.1.1 + 10, σ.1.2.1 + 586, σ.1.2.2) Q 61 [some (vr 21 p), some (vi (nI p))] [Sum.inr (Sum.inr (some (fa h.1.1))), vr 21 p] (zap (setI (setI (setI h 21 p 6 (nI 0)) 21 p 7 (nI 0)) 21 p 8 (nI 0)) (fa h.1.1).1 (fa h.1.1).2 40)))))
    rw [e]
    refine ⟨hp, by omega, hp, by omega, hp, by omega, nn0 40 (by omega), rfl, by show _ ≤ σ.1.1 + 10; omega, by show _ ≤ σ.1.2.1 + 586; omega, ?_⟩
    refine wp_ok (cut := [64]) ma_21 rfl 1 _ _ _ _ ?_
    show (p < 12 ∧ 21 + 17 * p < (zap (setI (setI (setI (h) 21 p 6 (nI 0)) 21 p 7 (nI 0)) 21 p 8 (nI 0)) 26 p 40).1.1 ∧ Sat false (d + 1) 21 (σ.1.1 + 10, σ.1.2.1 + 586, σ.1.2.2) Q 64 [some (vr 21 p), some (vi (nI p))] [] (setR (zap (setI (setI (setI (h) 21 p 6 (nI 0)) 21 p 7 (nI 0)) 21 p 8 (nI 0)) 26 p 40) 21 p 9 (some (26, p))))
    exact ⟨hp, by show _ < h.1.1 + 1; omega, s5 _ (mk_R (mk_z (mk_I (mk_I (mk_I (k) (Or.inr rfl)) (Or.inr rfl)) (Or.inr rfl)) (by omega) (by omega) 40) (by decide))⟩
  have s3 : ∀ h, MkI 10 σ h 21 p [(2, 22), (3, 23), (4, 24)] 3 240 → Sat false (d + 1) 21 (σ.1.1 + 10, σ.1.2.1 + 586, σ.1.2.2) Q 33 [some (vr 21 p), some (vi (nI p))] [] h := by
    intro h k
    have c1 : h.1.1 = σ.1.1 + 3 := congrArg Prod.fst k.2.2.2
    have c2 : h.1.2.1 = σ.1.2.1 + 240 := congrArg (fun q => q.2.1) k.2.2.2
    have e : fa h.1.1 = (25, p) := by rw [c1]; exact hfa 3 (by omega)
    refine wp_ok (cut := [38]) ma_21 rfl 3 _ _ _ _ ?_
    show (¬ (nI 80) < 0 ∧ fkd (fa h.1.1).1 = (20, 80) ∧ h.1.1 + 1 ≤ (σ.1.1 + 10, σ.1.2.1 + 586, σ.1.2.2).1 ∧ h.1.2.1 + 80 ≤ (σ.1.1 + 10, σ.1.2.1 + 586, σ.1.2.2).2.1 ∧ Sat false (d + 1) 21 (σ.1.1 + 10, σ.1.2.1 + 586, σ.1.2.2) Q 38 [some (vr 21 p), some (vi (nI p))] [Sum.inr (Sum.inr (some (fa h.1.1))), vr 21 p] (zap h (fa h.1.1).1 (fa h.1.1).2 80))
    rw [e]
    refine ⟨nn0 80 (by omega), rfl, by show _ ≤ σ.1.1 + 10; omega, by show _ ≤ σ.1.2.1 + 586; omega, ?_⟩
    refine wp_ok (cut := [41]) ma_21 rfl 1 _ _ _ _ ?_
    show (p < 12 ∧ 21 + 17 * p < (zap (h) 25 p 80).1.1 ∧ Sat false (d + 1) 21 (σ.1.1 + 10, σ.1.2.1 + 586, σ.1.2.2) Q 41 [some (vr 21 p), some (vi (nI p))] [] (setR (zap (h) 25 p 80) 21 p 5 (some (25, p))))
    exact ⟨hp, by show _ < h.1.1 + 1; omega, s4 _ (mk_R (mk_z (k) (by omega) (by omega) 80) (by decide))⟩
  have s2 : ∀ h, MkI 10 σ h 21 p [(2, 22), (3, 23)] 2 160 → Sat false (d + 1) 21 (σ.1.1 + 10, σ.1.2.1 + 586, σ.1.2.2) Q 25 [some (vr 21 p), some (vi (nI p))] [] h := by
    intro h k
    have c1 : h.1.1 = σ.1.1 + 2 := congrArg Prod.fst k.2.2.2
    have c2 : h.1.2.1 = σ.1.2.1 + 160 := congrArg (fun q => q.2.1) k.2.2.2
    have e : fa h.1.1 = (24, p) := by rw [c1]; exact hfa 2 (by omega)
    refine wp_ok (cut := [30]) ma_21 rfl 3 _ _ _ _ ?_
    show (¬ (nI 80) < 0 ∧ fkd (fa h.1.1).1 = (20, 80) ∧ h.1.1 + 1 ≤ (σ.1.1 + 10, σ.1.2.1 + 586, σ.1.2.2).1 ∧ h.1.2.1 + 80 ≤ (σ.1.1 + 10, σ.1.2.1 + 586, σ.1.2.2).2.1 ∧ Sat false (d + 1) 21 (σ.1.1 + 10, σ.1.2.1 + 586, σ.1.2.2) Q 30 [some (vr 21 p), some (vi (nI p))] [Sum.inr (Sum.inr (some (fa h.1.1))), vr 21 p] (zap h (fa h.1.1).1 (fa h.1.1).2 80))
    rw [e]
    refine ⟨nn0 80 (by omega), rfl, by show _ ≤ σ.1.1 + 10; omega, by show _ ≤ σ.1.2.1 + 586; omega, ?_⟩
    refine wp_ok (cut := [33]) ma_21 rfl 1 _ _ _ _ ?_
    show (p < 12 ∧ 21 + 17 * p < (zap (h) 24 p 80).1.1 ∧ Sat false (d + 1) 21 (σ.1.1 + 10, σ.1.2.1 + 586, σ.1.2.2) Q 33 [some (vr 21 p), some (vi (nI p))] [] (setR (zap (h) 24 p 80) 21 p 4 (some (24, p))))
    exact ⟨hp, by show _ < h.1.1 + 1; omega, s3 _ (mk_R (mk_z (k) (by omega) (by omega) 80) (by decide))⟩
  have s1 : ∀ h, MkI 10 σ h 21 p [(2, 22)] 1 80 → Sat false (d + 1) 21 (σ.1.1 + 10, σ.1.2.1 + 586, σ.1.2.2) Q 17 [some (vr 21 p), some (vi (nI p))] [] h := by
    intro h k
    have c1 : h.1.1 = σ.1.1 + 1 := congrArg Prod.fst k.2.2.2
    have c2 : h.1.2.1 = σ.1.2.1 + 80 := congrArg (fun q => q.2.1) k.2.2.2
    have e : fa h.1.1 = (23, p) := by rw [c1]; exact hfa 1 (by omega)
    refine wp_ok (cut := [22]) ma_21 rfl 3 _ _ _ _ ?_
    show (¬ (nI 80) < 0 ∧ fkd (fa h.1.1).1 = (22, 80) ∧ h.1.1 + 1 ≤ (σ.1.1 + 10, σ.1.2.1 + 586, σ.1.2.2).1 ∧ h.1.2.1 + 80 ≤ (σ.1.1 + 10, σ.1.2.1 + 586, σ.1.2.2).2.1 ∧ Sat false (d + 1) 21 (σ.1.1 + 10, σ.1.2.1 + 586, σ.1.2.2) Q 22 [some (vr 21 p), some (vi (nI p))] [Sum.inr (Sum.inr (some (fa h.1.1))), vr 21 p] (zap h (fa h.1.1).1 (fa h.1.1).2 80))
    rw [e]
    refine ⟨nn0 80 (by omega), rfl, by show _ ≤ σ.1.1 + 10; omega, by show _ ≤ σ.1.2.1 + 586; omega, ?_⟩
    refine wp_ok (cut := [25]) ma_21 rfl 1 _ _ _ _ ?_
    show (p < 12 ∧ 21 + 17 * p < (zap (h) 23 p 80).1.1 ∧ Sat false (d + 1) 21 (σ.1.1 + 10, σ.1.2.1 + 586, σ.1.2.2) Q 25 [some (vr 21 p), some (vi (nI p))] [] (setR (zap (h) 23 p 80) 21 p 3 (some (23, p))))
    exact ⟨hp, by show _ < h.1.1 + 1; omega, s2 _ (mk_R (mk_z (k) (by omega) (by omega) 80) (by decide))⟩
  have s0 : ∀ h, MkI 10 σ h 21 p [] 0 0 → Sat false (d + 1) 21 (σ.1.1 + 10, σ.1.2.1 + 586, σ.1.2.2) Q 0 [some (vr 21 p), some (vi (nI p))] [] h := by
    intro h k
    have c1 : h.1.1 = σ.1.1 + 0 := congrArg Prod.fst k.2.2.2
    have c2 : h.1.2.1 = σ.1.2.1 + 0 := congrArg (fun q => q.2.1) k.2.2.2
    have e : fa h.1.1 = (22, p) := by rw [c1]; exact hfa 0 (by omega)
    refine wp_ok (cut := [14]) ma_21 rfl 8 _ _ _ _ ?_
    show (p < 12 ∧ 21 + 17 * p < h.1.1 ∧ (¬ (nI 80) < 0 ∧ fkd (fa h.1.1).1 = (20, 80) ∧ h.1.1 + 1 ≤ (σ.1.1 + 10, σ.1.2.1 + 586, σ.1.2.2).1 ∧ h.1.2.1 + 80 ≤ (σ.1.1 + 10, σ.1.2.1 + 586, σ.1.2.2).2.1 ∧ Sat false (d + 1) 21 (σ.1.1 + 10, σ.1.2.1 + 586, σ.1.2.2) Q 14 [some (vr 21 p), some (vi (nI p))] [Sum.inr (Sum.inr (some (fa h.1.1))), vr 21 p] (zap (setI h 21 p 1 (nI 0)) (fa h.1.1).1 (fa h.1.1).2 80)))
    rw [e]
    refine ⟨hp, by omega, nn0 80 (by omega), rfl, by show _ ≤ σ.1.1 + 10; omega, by show _ ≤ σ.1.2.1 + 586; omega, ?_⟩
    refine wp_ok (cut := [17]) ma_21 rfl 1 _ _ _ _ ?_
    show (p < 12 ∧ 21 + 17 * p < (zap (setI (h) 21 p 1 (nI 0)) 22 p 80).1.1 ∧ Sat false (d + 1) 21 (σ.1.1 + 10, σ.1.2.1 + 586, σ.1.2.2) Q 17 [some (vr 21 p), some (vi (nI p))] [] (setR (zap (setI (h) 21 p 1 (nI 0)) 22 p 80) 21 p 2 (some (22, p))))
    exact ⟨hp, by show _ < h.1.1 + 1; omega, s1 _ (mk_R (mk_z (mk_I (k) (Or.inr rfl)) (by omega) (by omega) 80) (by decide))⟩
  exact s0 σ (mk_0 σ 21 p)
set_option maxRecDepth 6000 in
theorem i_Reader (d : Nat) {σ : Hp} (hc : 5 < σ.1.1) (hfa : ∀ t, t < 1 → fa (σ.1.1 + t) = (6 + t, 0)) : MV (d + 1) 28 [vr 5 0] σ (σ.1.1 + 1, σ.1.2.1 + 0, σ.1.2.2) (fun h => MkI 1 σ h 5 0 [(0, 6)] 1 0) := by
  refine MV_of mt_28 (Nat.le_of_ble_eq_true rfl) ⟨Nat.le_add_right _ _, Nat.le_add_right _ _⟩ fun Q hq => ?_
  have s1 : ∀ h, MkI 1 σ h 5 0 [(0, 6)] 1 0 → Sat false (d + 1) 28 (σ.1.1 + 1, σ.1.2.1 + 0, σ.1.2.2) Q 11 [some (vr 5 0)] [] h := by
    intro h k
    have c1 : h.1.1 = σ.1.1 + 1 := congrArg Prod.fst k.2.2.2
    refine wp_ok (cut := []) ma_28 rfl 7 _ _ _ _ ?_
    show (5 < h.1.1 ∧ (5 < h.1.1 ∧ (Q none (setI (setI h 5 0 1 (nI 0)) 5 0 2 (nI 0)) ∧ h.1 = (σ.1.1 + 1, σ.1.2.1 + 0, σ.1.2.2))))
    exact ⟨by omega, by omega, hq _ (mk_I (mk_I (k) (Or.inr rfl)) (Or.inr rfl)), k.2.2.2⟩
  have s0 : ∀ h, MkI 1 σ h 5 0 [] 0 0 → Sat false (d + 1) 28 (σ.1.1 + 1, σ.1.2.1 + 0, σ.1.2.2) Q 0 [some (vr 5 0)] [] h := by
    intro h k
    have c1 : h.1.1 = σ.1.1 + 0 := congrArg Prod.fst k.2.2.2
    have c2 : h.1.2.1 = σ.1.2.1 + 0 := congrArg (fun q => q.2.1) k.2.2.2
    have e : fa h.1.1 = (6, 0) := by rw [c1]; exact hfa 0 (by omega)
    refine wp_ok (cut := [8]) ma_28 rfl 5 _ _ _ _ ?_
    show (¬ (nI 0) < 0 ∧ fkd (fa h.1.1).1 = (21, 0) ∧ h.1.1 + 1 ≤ (σ.1.1 + 1, σ.1.2.1 + 0, σ.1.2.2).1 ∧ h.1.2.1 + 0 ≤ (σ.1.1 + 1, σ.1.2.1 + 0, σ.1.2.2).2.1 ∧ Sat false (d + 1) 28 (σ.1.1 + 1, σ.1.2.1 + 0, σ.1.2.2) Q 8 [some (vr 5 0)] [Sum.inr (Sum.inr (some (fa h.1.1))), vr 5 0] (zap h (fa h.1.1).1 (fa h.1.1).2 0))
    rw [e]
    refine ⟨nn0 0 (by omega), rfl, by show _ ≤ σ.1.1 + 1; omega, by show _ ≤ σ.1.2.1 + 0; omega, ?_⟩
    refine wp_ok (cut := [11]) ma_28 rfl 1 _ _ _ _ ?_
    show (5 < (zap (h) 6 0 0).1.1 ∧ Sat false (d + 1) 28 (σ.1.1 + 1, σ.1.2.1 + 0, σ.1.2.2) Q 11 [some (vr 5 0)] [] (setR (zap (h) 6 0 0) 5 0 0 (some (6, 0))))
    exact ⟨by show _ < h.1.1 + 1; omega, s1 _ (mk_R (mk_z (k) (by omega) (by omega) 0) (by decide))⟩
  exact s0 σ (mk_0 σ 5 0)
set_option maxRecDepth 6000 in
theorem i_Route (d : Nat) {σ : Hp} (hc : 225 < σ.1.1) (hfa : ∀ t, t < 3 → fa (σ.1.1 + t) = (226 + t, 0)) : MV (d + 1) 42 [vr 225 0, vr 7 0] σ (σ.1.1 + 3, σ.1.2.1 + 507, σ.1.2.2) (fun h => MkI 3 σ h 225 0 [(6, 226), (7, 227), (8, 228), (0, 7)] 3 507) := by
  refine MV_of mt_42 (Nat.le_of_ble_eq_true rfl) ⟨Nat.le_add_right _ _, Nat.le_add_right _ _⟩ fun Q hq => ?_
  have s3 : ∀ h, MkI 3 σ h 225 0 [(6, 226), (7, 227), (8, 228)] 3 507 → Sat false (d + 1) 42 (σ.1.1 + 3, σ.1.2.1 + 507, σ.1.2.2) Q 57 [some (vr 225 0), some (vr 7 0)] [] h := by
    intro h k
    have c1 : h.1.1 = σ.1.1 + 3 := congrArg Prod.fst k.2.2.2
    refine wp_ok (cut := []) ma_42 rfl 4 _ _ _ _ ?_
    show (225 < h.1.1 ∧ (Q none (setR h 225 0 0 (some (7, 0))) ∧ h.1 = (σ.1.1 + 3, σ.1.2.1 + 507, σ.1.2.2)))
    exact ⟨by omega, hq _ (mk_R (k) (by decide)), k.2.2.2⟩
  have s2 : ∀ h, MkI 3 σ h 225 0 [(6, 226), (7, 227)] 2 338 → Sat false (d + 1) 42 (σ.1.1 + 3, σ.1.2.1 + 507, σ.1.2.2) Q 48 [some (vr 225 0), some (vr 7 0)] [] h := by
    intro h k
    have c1 : h.1.1 = σ.1.1 + 2 := congrArg Prod.fst k.2.2.2
    have c2 : h.1.2.1 = σ.1.2.1 + 338 := congrArg (fun q => q.2.1) k.2.2.2
    have e : fa h.1.1 = (228, 0) := by rw [c1]; exact hfa 2 (by omega)
    refine wp_ok (cut := [54]) ma_42 rfl 3 _ _ _ _ ?_
    show (¬ (nI 169) < 0 ∧ fkd (fa h.1.1).1 = (20, 169) ∧ h.1.1 + 1 ≤ (σ.1.1 + 3, σ.1.2.1 + 507, σ.1.2.2).1 ∧ h.1.2.1 + 169 ≤ (σ.1.1 + 3, σ.1.2.1 + 507, σ.1.2.2).2.1 ∧ Sat false (d + 1) 42 (σ.1.1 + 3, σ.1.2.1 + 507, σ.1.2.2) Q 54 [some (vr 225 0), some (vr 7 0)] [Sum.inr (Sum.inr (some (fa h.1.1))), vr 225 0] (zap h (fa h.1.1).1 (fa h.1.1).2 169))
    rw [e]
    refine ⟨nn0 169 (by omega), rfl, by show _ ≤ σ.1.1 + 3; omega, by show _ ≤ σ.1.2.1 + 507; omega, ?_⟩
    refine wp_ok (cut := [57]) ma_42 rfl 1 _ _ _ _ ?_
    show (225 < (zap (h) 228 0 169).1.1 ∧ Sat false (d + 1) 42 (σ.1.1 + 3, σ.1.2.1 + 507, σ.1.2.2) Q 57 [some (vr 225 0), some (vr 7 0)] [] (setR (zap (h) 228 0 169) 225 0 8 (some (228, 0))))
    exact ⟨by show _ < h.1.1 + 1; omega, s3 _ (mk_R (mk_z (k) (by omega) (by omega) 169) (by decide))⟩
  have s1 : ∀ h, MkI 3 σ h 225 0 [(6, 226)] 1 169 → Sat false (d + 1) 42 (σ.1.1 + 3, σ.1.2.1 + 507, σ.1.2.2) Q 39 [some (vr 225 0), some (vr 7 0)] [] h := by
    intro h k
    have c1 : h.1.1 = σ.1.1 + 1 := congrArg Prod.fst k.2.2.2
    have c2 : h.1.2.1 = σ.1.2.1 + 169 := congrArg (fun q => q.2.1) k.2.2.2
    have e : fa h.1.1 = (227, 0) := by rw [c1]; exact hfa 1 (by omega)
    refine wp_ok (cut := [45]) ma_42 rfl 3 _ _ _ _ ?_
    show (¬ (nI 169) < 0 ∧ fkd (fa h.1.1).1 = (22, 169) ∧ h.1.1 + 1 ≤ (σ.1.1 + 3, σ.1.2.1 + 507, σ.1.2.2).1 ∧ h.1.2.1 + 169 ≤ (σ.1.1 + 3, σ.1.2.1 + 507, σ.1.2.2).2.1 ∧ Sat false (d + 1) 42 (σ.1.1 + 3, σ.1.2.1 + 507, σ.1.2.2) Q 45 [some (vr 225 0), some (vr 7 0)] [Sum.inr (Sum.inr (some (fa h.1.1))), vr 225 0] (zap h (fa h.1.1).1 (fa h.1.1).2 169))
    rw [e]
    refine ⟨nn0 169 (by omega), rfl, by show _ ≤ σ.1.1 + 3; omega, by show _ ≤ σ.1.2.1 + 507; omega, ?_⟩
    refine wp_ok (cut := [48]) ma_42 rfl 1 _ _ _ _ ?_
    show (225 < (zap (h) 227 0 169).1.1 ∧ Sat false (d + 1) 42 (σ.1.1 + 3, σ.1.2.1 + 507, σ.1.2.2) Q 48 [some (vr 225 0), some (vr 7 0)] [] (setR (zap (h) 227 0 169) 225 0 7 (some (227, 0))))
    exact ⟨by show _ < h.1.1 + 1; omega, s2 _ (mk_R (mk_z (k) (by omega) (by omega) 169) (by decide))⟩
  have s0 : ∀ h, MkI 3 σ h 225 0 [] 0 0 → Sat false (d + 1) 42 (σ.1.1 + 3, σ.1.2.1 + 507, σ.1.2.2) Q 0 [some (vr 225 0), some (vr 7 0)] [] h := by
    intro h k
    have c1 : h.1.1 = σ.1.1 + 0 := congrArg Prod.fst k.2.2.2
    have c2 : h.1.2.1 = σ.1.2.1 + 0 := congrArg (fun q => q.2.1) k.2.2.2
    have e : fa h.1.1 = (226, 0) := by rw [c1]; exact hfa 0 (by omega)
    refine wp_ok (cut := [36]) ma_42 rfl 20 _ _ _ _ ?_
    show (225 < h.1.1 ∧ (225 < h.1.1 ∧ (225 < h.1.1 ∧ (225 < h.1.1 ∧ (225 < h.1.1 ∧ (¬ (nI 169) < 0 ∧ fkd (fa h.1.1).1 = (20, 169) ∧ h.1.1 + 1 ≤ (σ.1.1 + 3, σ.1.2.1 + 507, σ.1.2.2).1 ∧ h.1.2.1 + 169 ≤ (σ.1.1 + 3, σ.1.2.1 + 507, σ.1.2.2).2.1 ∧ Sat false (d + 1) 42 (σ.1.1 + 3, σ.1.2.1 + 507, σ.1.2.2) Q 36 [some (vr 225 0), some (vr 7 0)] [Sum.inr (Sum.inr (some (fa h.1.1))), vr 225 0] (zap (setI (setI (setL (setI (setI h 225 0 1 (nI 0)) 225 0 2 (nI 0)) 225 0 3 (lN 0)) 225 0 4 (-6)) 225 0 5 (nI 0)) (fa h.1.1).1 (fa h.1.1).2 169)))))))
    rw [e]
    refine ⟨by omega, by omega, by omega, by omega, by omega, nn0 169 (by omega), rfl, by show _ ≤ σ.1.1 + 3; omega, by show _ ≤ σ.1.2.1 + 507; omega, ?_⟩
    refine wp_ok (cut := [39]) ma_42 rfl 1 _ _ _ _ ?_
    show (225 < (zap (setI (setI (setL (setI (setI (h) 225 0 1 (nI 0)) 225 0 2 (nI 0)) 225 0 3 (lN 0)) 225 0 4 (-6)) 225 0 5 (nI 0)) 226 0 169).1.1 ∧ Sat false (d + 1) 42 (σ.1.1 + 3, σ.1.2.1 + 507, σ.1.2.2) Q 39 [some (vr 225 0), some (vr 7 0)] [] (setR (zap (setI (setI (setL (setI (setI (h) 225 0 1 (nI 0)) 225 0 2 (nI 0)) 225 0 3 (lN 0)) 225 0 4 (-6)) 225 0 5 (nI 0)) 226 0 169) 225 0 6 (some (226, 0))))
    exact ⟨by show _ < h.1.1 + 1; omega, s1 _ (mk_R (mk_z (mk_I (mk_I (mk_L (mk_I (mk_I (k) (Or.inr rfl)) (Or.inr rfl))) (Or.inl (by unfold NZ; omega))) (Or.inr rfl)) (by omega) (by omega) 169) (by decide))⟩
  exact s0 σ (mk_0 σ 225 0)
set_option maxRecDepth 6000 in
theorem i_Mender (d : Nat) {σ : Hp} (hc : 229 < σ.1.1) (hfa : ∀ t, t < 3 → fa (σ.1.1 + t) = (230 + t, 0)) : MV (d + 1) 15 [vr 229 0, vr 7 0] σ (σ.1.1 + 3, σ.1.2.1 + 34, σ.1.2.2) (fun h => MkI 3 σ h 229 0 [(6, 230), (8, 231), (9, 232), (0, 7)] 3 34) := by
  refine MV_of mt_15 (Nat.le_of_ble_eq_true rfl) ⟨Nat.le_add_right _ _, Nat.le_add_right _ _⟩ fun Q hq => ?_
  have s3 : ∀ h, MkI 3 σ h 229 0 [(6, 230), (8, 231), (9, 232)] 3 34 → Sat false (d + 1) 15 (σ.1.1 + 3, σ.1.2.1 + 34, σ.1.2.2) Q 61 [some (vr 229 0), some (vr 7 0)] [] h := by
    intro h k
    have c1 : h.1.1 = σ.1.1 + 3 := congrArg Prod.fst k.2.2.2
    refine wp_ok (cut := []) ma_15 rfl 4 _ _ _ _ ?_
    show (229 < h.1.1 ∧ (Q none (setR h 229 0 0 (some (7, 0))) ∧ h.1 = (σ.1.1 + 3, σ.1.2.1 + 34, σ.1.2.2)))
    exact ⟨by omega, hq _ (mk_R (k) (by decide)), k.2.2.2⟩
  have s2 : ∀ h, MkI 3 σ h 229 0 [(6, 230), (8, 231)] 2 22 → Sat false (d + 1) 15 (σ.1.1 + 3, σ.1.2.1 + 34, σ.1.2.2) Q 53 [some (vr 229 0), some (vr 7 0)] [] h := by
    intro h k
    have c1 : h.1.1 = σ.1.1 + 2 := congrArg Prod.fst k.2.2.2
    have c2 : h.1.2.1 = σ.1.2.1 + 22 := congrArg (fun q => q.2.1) k.2.2.2
    have e : fa h.1.1 = (232, 0) := by rw [c1]; exact hfa 2 (by omega)
    refine wp_ok (cut := [58]) ma_15 rfl 3 _ _ _ _ ?_
    show (¬ (nI 12) < 0 ∧ fkd (fa h.1.1).1 = (20, 12) ∧ h.1.1 + 1 ≤ (σ.1.1 + 3, σ.1.2.1 + 34, σ.1.2.2).1 ∧ h.1.2.1 + 12 ≤ (σ.1.1 + 3, σ.1.2.1 + 34, σ.1.2.2).2.1 ∧ Sat false (d + 1) 15 (σ.1.1 + 3, σ.1.2.1 + 34, σ.1.2.2) Q 58 [some (vr 229 0), some (vr 7 0)] [Sum.inr (Sum.inr (some (fa h.1.1))), vr 229 0] (zap h (fa h.1.1).1 (fa h.1.1).2 12))
    rw [e]
    refine ⟨nn0 12 (by omega), rfl, by show _ ≤ σ.1.1 + 3; omega, by show _ ≤ σ.1.2.1 + 34; omega, ?_⟩
    refine wp_ok (cut := [61]) ma_15 rfl 1 _ _ _ _ ?_
    show (229 < (zap (h) 232 0 12).1.1 ∧ Sat false (d + 1) 15 (σ.1.1 + 3, σ.1.2.1 + 34, σ.1.2.2) Q 61 [some (vr 229 0), some (vr 7 0)] [] (setR (zap (h) 232 0 12) 229 0 9 (some (232, 0))))
    exact ⟨by show _ < h.1.1 + 1; omega, s3 _ (mk_R (mk_z (k) (by omega) (by omega) 12) (by decide))⟩
  have s1 : ∀ h, MkI 3 σ h 229 0 [(6, 230)] 1 11 → Sat false (d + 1) 15 (σ.1.1 + 3, σ.1.2.1 + 34, σ.1.2.2) Q 40 [some (vr 229 0), some (vr 7 0)] [] h := by
    intro h k
    have c1 : h.1.1 = σ.1.1 + 1 := congrArg Prod.fst k.2.2.2
    have c2 : h.1.2.1 = σ.1.2.1 + 11 := congrArg (fun q => q.2.1) k.2.2.2
    have e : fa h.1.1 = (231, 0) := by rw [c1]; exact hfa 1 (by omega)
    refine wp_ok (cut := [50]) ma_15 rfl 6 _ _ _ _ ?_
    show (229 < h.1.1 ∧ (¬ (nI 11) < 0 ∧ fkd (fa h.1.1).1 = (21, 11) ∧ h.1.1 + 1 ≤ (σ.1.1 + 3, σ.1.2.1 + 34, σ.1.2.2).1 ∧ h.1.2.1 + 11 ≤ (σ.1.1 + 3, σ.1.2.1 + 34, σ.1.2.2).2.1 ∧ Sat false (d + 1) 15 (σ.1.1 + 3, σ.1.2.1 + 34, σ.1.2.2) Q 50 [some (vr 229 0), some (vr 7 0)] [Sum.inr (Sum.inr (some (fa h.1.1))), vr 229 0] (zap (setI h 229 0 7 (nI 0)) (fa h.1.1).1 (fa h.1.1).2 11)))
    rw [e]
    refine ⟨by omega, nn0 11 (by omega), rfl, by show _ ≤ σ.1.1 + 3; omega, by show _ ≤ σ.1.2.1 + 34; omega, ?_⟩
    refine wp_ok (cut := [53]) ma_15 rfl 1 _ _ _ _ ?_
    show (229 < (zap (setI (h) 229 0 7 (nI 0)) 231 0 11).1.1 ∧ Sat false (d + 1) 15 (σ.1.1 + 3, σ.1.2.1 + 34, σ.1.2.2) Q 53 [some (vr 229 0), some (vr 7 0)] [] (setR (zap (setI (h) 229 0 7 (nI 0)) 231 0 11) 229 0 8 (some (231, 0))))
    exact ⟨by show _ < h.1.1 + 1; omega, s2 _ (mk_R (mk_z (mk_I (k) (Or.inr rfl)) (by omega) (by omega) 11) (by decide))⟩
  have s0 : ∀ h, MkI 3 σ h 229 0 [] 0 0 → Sat false (d + 1) 15 (σ.1.1 + 3, σ.1.2.1 + 34, σ.1.2.2) Q 0 [some (vr 229 0), some (vr 7 0)] [] h := by
    intro h k
    have c1 : h.1.1 = σ.1.1 + 0 := congrArg Prod.fst k.2.2.2
    have c2 : h.1.2.1 = σ.1.2.1 + 0 := congrArg (fun q => q.2.1) k.2.2.2
    have e : fa h.1.1 = (230, 0) := by rw [c1]; exact hfa 0 (by omega)
    refine wp_ok (cut := [37]) ma_15 rfl 20 _ _ _ _ ?_
    show (229 < h.1.1 ∧ (229 < h.1.1 ∧ (229 < h.1.1 ∧ (229 < h.1.1 ∧ (229 < h.1.1 ∧ (¬ (nI 11) < 0 ∧ fkd (fa h.1.1).1 = (21, 11) ∧ h.1.1 + 1 ≤ (σ.1.1 + 3, σ.1.2.1 + 34, σ.1.2.2).1 ∧ h.1.2.1 + 11 ≤ (σ.1.1 + 3, σ.1.2.1 + 34, σ.1.2.2).2.1 ∧ Sat false (d + 1) 15 (σ.1.1 + 3, σ.1.2.1 + 34, σ.1.2.2) Q 37 [some (vr 229 0), some (vr 7 0)] [Sum.inr (Sum.inr (some (fa h.1.1))), vr 229 0] (zap (setL (setL (setI (setI (setI h 229 0 1 (nI 1000)) 229 0 2 (nI 0)) 229 0 3 (-6)) 229 0 4 (lN 0)) 229 0 5 (lN 0)) (fa h.1.1).1 (fa h.1.1).2 11)))))))
    rw [e]
    refine ⟨by omega, by omega, by omega, by omega, by omega, nn0 11 (by omega), rfl, by show _ ≤ σ.1.1 + 3; omega, by show _ ≤ σ.1.2.1 + 34; omega, ?_⟩
    refine wp_ok (cut := [40]) ma_15 rfl 1 _ _ _ _ ?_
    show (229 < (zap (setL (setL (setI (setI (setI (h) 229 0 1 (nI 1000)) 229 0 2 (nI 0)) 229 0 3 (-6)) 229 0 4 (lN 0)) 229 0 5 (lN 0)) 230 0 11).1.1 ∧ Sat false (d + 1) 15 (σ.1.1 + 3, σ.1.2.1 + 34, σ.1.2.2) Q 40 [some (vr 229 0), some (vr 7 0)] [] (setR (zap (setL (setL (setI (setI (setI (h) 229 0 1 (nI 1000)) 229 0 2 (nI 0)) 229 0 3 (-6)) 229 0 4 (lN 0)) 229 0 5 (lN 0)) 230 0 11) 229 0 6 (some (230, 0))))
    exact ⟨by show _ < h.1.1 + 1; omega, s1 _ (mk_R (mk_z (mk_L (mk_L (mk_I (mk_I (mk_I (k) (Or.inl (by unfold NZ; omega))) (Or.inr rfl)) (Or.inl (by unfold NZ; omega))))) (by omega) (by omega) 11) (by decide))⟩
  exact s0 σ (mk_0 σ 229 0)
