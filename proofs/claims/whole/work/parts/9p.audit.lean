/-! the constructor of LinkAuditor -/
def AuI (σ h : Hp) : Prop := (Zr σ → Zr h) ∧ (∀ f q, (f = 0 ∨ 233 ≤ f) → hI h f q = hI σ f q ∧ hL h f q = hL σ f q ∧ hR h f q = hR σ f q) ∧ Rf h 1 0 ∧ (∀ k, hR h 3 0 k = none) ∧ Rf h 7 0 ∧ Rf h 8 0 ∧ (∀ q, q < 12 → Rf h 21 q ∧ Rf h 32 q ∧ hR h 18 0 q = some (21, q) ∧ hR h 19 0 q = some (32, q) ∧ hI h 21 q 0 = nI q) ∧ Rf h 225 0 ∧ Rf h 229 0
theorem o_z {h : Hp} {F p n f q : Nat} (w : ¬ (f = F ∧ q = p)) : hI (zap h F p n) f q = hI h f q ∧ hL (zap h F p n) f q = hL h f q ∧ hR (zap h F p n) f q = hR h f q := ⟨funext fun i => by rw [hI_z, if_neg w], funext fun i => by rw [hL_z, if_neg w], funext fun i => by rw [hR_z, if_neg w]⟩
theorem o_r {h : Hp} {F p k f q : Nat} {x : Option (Nat × Nat)} (w : ¬ (f = F ∧ q = p)) : hI (setR h F p k x) f q = hI h f q ∧ hL (setR h F p k x) f q = hL h f q ∧ hR (setR h F p k x) f q = hR h f q := ⟨rfl, rfl, funext fun i => by rw [hR_r, if_neg (fun e => w ⟨e.1, e.2.1⟩)]⟩
def Sm (h h' : Hp) (f q : Nat) : Prop := hI h' f q = hI h f q ∧ hL h' f q = hL h f q ∧ hR h' f q = hR h f q
theorem Sm.tr {a b c : Hp} {f q : Nat} (x : Sm a b f q) (y : Sm b c f q) : Sm a c f q := ⟨y.1.trans x.1, y.2.1.trans x.2.1, y.2.2.trans x.2.2⟩
set_option maxRecDepth 6000 in
theorem i_Audit (d : Nat) {σ : Hp} (h2 : σ.1.1 = 2) : MV (d + 3) 68 [vr 1 0] σ (233, σ.1.2.1 + 15677, σ.1.2.2) (fun h => AuI σ h) := by
  refine MV_of mt_68 (Nat.le_of_ble_eq_true rfl) ⟨by show σ.1.1 ≤ 233; omega, Nat.le_add_right _ _⟩ fun Q hq => ?_
  have e2 : fa σ.1.1 = (2, 0) := by rw [h2]; exact fa_0 (by omega)
  refine wp_ok (cut := [10]) ma_68 rfl 5 _ _ _ _ ?_
  show (¬ (nI 160) < 0 ∧ fkd (fa σ.1.1).1 = (21, 160) ∧ σ.1.1 + 1 ≤ (233, σ.1.2.1 + 15677, σ.1.2.2).1 ∧ σ.1.2.1 + 160 ≤ (233, σ.1.2.1 + 15677, σ.1.2.2).2.1 ∧ Sat false (d + 3) 68 (233, σ.1.2.1 + 15677, σ.1.2.2) Q 10 [some (vr 1 0)] [Sum.inr (Sum.inr (some (fa σ.1.1))), vr 1 0] (zap σ (fa σ.1.1).1 (fa σ.1.1).2 160))
  rw [e2]
  refine ⟨nn0 160 (by omega), rfl, by show _ ≤ 233; omega, by show _ ≤ σ.1.2.1 + 15677; omega, ?_⟩
  have k1 := mk_z (g := 2) (mk_0 (N := 231) σ 1 0) (by omega) (by omega) 160
  have a1 : (zap σ 2 0 160).1.1 = σ.1.1 + 1 := rfl
  have b1 : (zap σ 2 0 160).1.2.1 = σ.1.2.1 + 160 := rfl
  generalize zap σ 2 0 160 = h1 at k1 a1 b1 ⊢
  have e3 : fa h1.1.1 = (3, 0) := by rw [a1, h2]; exact fa_0 (by omega)
  refine wp_ok (cut := [19]) ma_68 rfl 4 _ _ _ _ ?_
  show (1 < h1.1.1 ∧ (¬ (nI 10) < 0 ∧ fkd (fa h1.1.1).1 = (23, 10) ∧ h1.1.1 + 1 ≤ (233, σ.1.2.1 + 15677, σ.1.2.2).1 ∧ h1.1.2.1 + 10 ≤ (233, σ.1.2.1 + 15677, σ.1.2.2).2.1 ∧ Sat false (d + 3) 68 (233, σ.1.2.1 + 15677, σ.1.2.2) Q 19 [some (vr 1 0)] [Sum.inr (Sum.inr (some (fa h1.1.1))), vr 1 0] (zap (setR h1 1 0 0 (some (2, 0))) (fa h1.1.1).1 (fa h1.1.1).2 10)))
  rw [e3]
  refine ⟨by omega, nn0 10 (by omega), rfl, by show _ ≤ 233; omega, by show _ ≤ σ.1.2.1 + 15677; omega, ?_⟩
  have k2 := mk_z (g := 3) (mk_R (i := 0) (g := 2) k1 (by decide)) (by omega) (by omega) 10
  have n2 : ∀ k, hR (zap (setR h1 1 0 0 (some (2, 0))) 3 0 10) 3 0 k = none := fun k => by rw [hR_z, if_pos ⟨rfl, rfl⟩]
  have a2 : (zap (setR h1 1 0 0 (some (2, 0))) 3 0 10).1.1 = h1.1.1 + 1 := rfl
  have b2 : (zap (setR h1 1 0 0 (some (2, 0))) 3 0 10).1.2.1 = h1.1.2.1 + 10 := rfl
  generalize zap (setR h1 1 0 0 (some (2, 0))) 3 0 10 = h3 at k2 n2 a2 b2 ⊢
  have e4 : fa h3.1.1 = (4, 0) := by rw [a2, a1, h2]; exact fa_0 (by omega)
  refine wp_ok (cut := [27]) ma_68 rfl 4 _ _ _ _ ?_
  show (1 < h3.1.1 ∧ (¬ (nI 11) < 0 ∧ fkd (fa h3.1.1).1 = (21, 11) ∧ h3.1.1 + 1 ≤ (233, σ.1.2.1 + 15677, σ.1.2.2).1 ∧ h3.1.2.1 + 11 ≤ (233, σ.1.2.1 + 15677, σ.1.2.2).2.1 ∧ Sat false (d + 3) 68 (233, σ.1.2.1 + 15677, σ.1.2.2) Q 27 [some (vr 1 0)] [Sum.inr (Sum.inr (some (fa h3.1.1))), vr 1 0] (zap (setR h3 1 0 6 (some (3, 0))) (fa h3.1.1).1 (fa h3.1.1).2 11)))
  rw [e4]
  refine ⟨by omega, nn0 11 (by omega), rfl, by show _ ≤ 233; omega, by show _ ≤ σ.1.2.1 + 15677; omega, ?_⟩
  have k3 := mk_z (g := 4) (mk_R (i := 6) (g := 3) k2 (by decide)) (by omega) (by omega) 11
  have n3 : ∀ k, hR (zap (setR h3 1 0 6 (some (3, 0))) 4 0 11) 3 0 k = none := fun k => by rw [hR_z, if_neg (by omega), hR_r, if_neg (by omega)]; exact n2 k
  have a3 : (zap (setR h3 1 0 6 (some (3, 0))) 4 0 11).1.1 = h3.1.1 + 1 := rfl
  have b3 : (zap (setR h3 1 0 6 (some (3, 0))) 4 0 11).1.2.1 = h3.1.2.1 + 11 := rfl
  generalize zap (setR h3 1 0 6 (some (3, 0))) 4 0 11 = h4 at k3 n3 a3 b3 ⊢
  have e5 : fa h4.1.1 = (5, 0) := by rw [a3, a2, a1, h2]; exact fa_0 (by omega)
  refine wp_ok (cut := [44]) ma_68 rfl 9 _ _ _ _ ?_
  show (1 < h4.1.1 ∧ (1 < h4.1.1 ∧ (1 < h4.1.1 ∧ (fkd (fa h4.1.1).1 = (4, 3) ∧ h4.1.1 + 1 ≤ (233, σ.1.2.1 + 15677, σ.1.2.2).1 ∧ h4.1.2.1 + 3 ≤ (233, σ.1.2.1 + 15677, σ.1.2.2).2.1 ∧ Sat false (d + 3) 68 (233, σ.1.2.1 + 15677, σ.1.2.2) Q 44 [some (vr 1 0)] [Sum.inr (Sum.inr (some (fa h4.1.1))), vr 1 0] (zap (setI (setI (setR h4 1 0 8 (some (4, 0))) 1 0 1 (nI 0)) 1 0 7 (nI 0)) (fa h4.1.1).1 (fa h4.1.1).2 3)))))
  rw [e5]
  refine ⟨by omega, by omega, by omega, rfl, by show _ ≤ 233; omega, by show _ ≤ σ.1.2.1 + 15677; omega, ?_⟩
  have k4 := mk_z (g := 5) (mk_I (i := 7) (x := nI 0) (mk_I (i := 1) (x := nI 0) (mk_R (i := 8) (g := 4) k3 (by decide)) (Or.inr rfl)) (Or.inr rfl)) (by omega) (by omega) 3
  have n4 : ∀ k, hR (zap (setI (setI (setR h4 1 0 8 (some (4, 0))) 1 0 1 (nI 0)) 1 0 7 (nI 0)) 5 0 3) 3 0 k = none := fun k => by
    rw [hR_z, if_neg (by omega)]
    show hR (setR h4 1 0 8 (some (4, 0))) 3 0 k = none
    rw [hR_r, if_neg (by omega)]; exact n3 k
  have a4 : (zap (setI (setI (setR h4 1 0 8 (some (4, 0))) 1 0 1 (nI 0)) 1 0 7 (nI 0)) 5 0 3).1.1 = h4.1.1 + 1 := rfl
  have b4 : (zap (setI (setI (setR h4 1 0 8 (some (4, 0))) 1 0 1 (nI 0)) 1 0 7 (nI 0)) 5 0 3).1.2.1 = h4.1.2.1 + 3 := rfl
  generalize zap (setI (setI (setR h4 1 0 8 (some (4, 0))) 1 0 1 (nI 0)) 1 0 7 (nI 0)) 5 0 3 = h5 at k4 n4 a4 b4 ⊢
  refine wp_ok (cut := [55]) ma_68 rfl 5 _ _ _ _ ?_
  show CalV false (d + 2) 28 [vr 5 0] h5 (233, σ.1.2.1 + 15677, σ.1.2.2) (fun s1 => (1 < s1.1.1 ∧ (fkd (fa s1.1.1).1 = (6, 5) ∧ s1.1.1 + 1 ≤ (233, σ.1.2.1 + 15677, σ.1.2.2).1 ∧ s1.1.2.1 + 5 ≤ (233, σ.1.2.1 + 15677, σ.1.2.2).2.1 ∧ Sat false (d + 3) 68 (233, σ.1.2.1 + 15677, σ.1.2.2) Q 55 [some (vr 1 0)] [Sum.inr (Sum.inr (some (fa s1.1.1))), vr 1 0] (zap (setR s1 1 0 2 (some (5, 0))) (fa s1.1.1).1 (fa s1.1.1).2 5))))
  refine cm_v (i_Reader (d + 1) (σ := h5) (by omega) (fun t ht => ?_)) ⟨by show h5.1.1 + 1 ≤ 233; omega, by show h5.1.2.1 + 0 ≤ σ.1.2.1 + 15677; omega⟩ (fun h6 q6 w6 => ?_)
  · rw [a4, a3, a2, a1, h2, show 2 + 1 + 1 + 1 + 1 + t = 6 + t by omega]
    exact fa_0 (by omega)
  have a6 : h6.1.1 = h5.1.1 + 1 := congrArg Prod.fst w6
  have b6 : h6.1.2.1 = h5.1.2.1 := congrArg (fun q => q.2.1) w6
  have k6 := mk_sub k4 q6 (by omega) (by omega)
  have n6 : ∀ k, hR h6 3 0 k = none := fun k => by rw [(q6.1 3 0 (by omega)).2.2]; exact n4 k
  have e7 : fa h6.1.1 = (7, 0) := by rw [a6, a4, a3, a2, a1, h2]; exact fa_0 (by omega)
  rw [e7]
  refine ⟨by omega, rfl, by show _ ≤ 233; omega, by show _ ≤ σ.1.2.1 + 15677; omega, ?_⟩
  have k7 := mk_z (g := 7) (mk_R (i := 2) (g := 5) k6 (by decide)) (by omega) (by omega) 5
  have n7 : ∀ k, hR (zap (setR h6 1 0 2 (some (5, 0))) 7 0 5) 3 0 k = none := fun k => by rw [hR_z, if_neg (by omega), hR_r, if_neg (by omega)]; exact n6 k
  have a7 : (zap (setR h6 1 0 2 (some (5, 0))) 7 0 5).1.1 = h6.1.1 + 1 := rfl
  have b7 : (zap (setR h6 1 0 2 (some (5, 0))) 7 0 5).1.2.1 = h6.1.2.1 + 5 := rfl
  have l7 : (zap (setR h6 1 0 2 (some (5, 0))) 7 0 5).1.2.2 = σ.1.2.2 := congrArg (fun q => q.2.2) k7.2.2.2
  generalize zap (setR h6 1 0 2 (some (5, 0))) 7 0 5 = h7 at k7 n7 a7 b7 l7 ⊢
  refine wp_ok (cut := [66]) ma_68 rfl 5 _ _ _ _ ?_
  show CalV false (d + 2) 48 [vr 7 0] h7 (233, σ.1.2.1 + 15677, σ.1.2.2) (fun s1 => (1 < s1.1.1 ∧ (fkd (fa s1.1.1).1 = (5, 9) ∧ s1.1.1 + 1 ≤ (233, σ.1.2.1 + 15677, σ.1.2.2).1 ∧ s1.1.2.1 + 9 ≤ (233, σ.1.2.1 + 15677, σ.1.2.2).2.1 ∧ Sat false (d + 3) 68 (233, σ.1.2.1 + 15677, σ.1.2.2) Q 66 [some (vr 1 0)] [Sum.inr (Sum.inr (some (fa s1.1.1))), vr 1 0] (zap (setR s1 1 0 3 (some (7, 0))) (fa s1.1.1).1 (fa s1.1.1).2 9))))
  refine cm_v (i_Site d (σ := h7) (by omega)) ⟨by show 225 ≤ 233; omega, by show h7.1.2.1 + 14928 ≤ σ.1.2.1 + 15677; omega⟩ (fun h8 q8 w8 => ?_)
  have a8 : h8.1.1 = 225 := congrArg Prod.fst w8
  have b8 : h8.1.2.1 = h7.1.2.1 + 14928 := congrArg (fun q => q.2.1) w8
  have l8 : h8.1.2.2 = h7.1.2.2 := congrArg (fun q => q.2.2) w8
  have e225 : fa h8.1.1 = (225, 0) := by rw [a8]; exact fa_q (by omega) (by omega)
  rw [e225]
  refine ⟨by omega, rfl, by show _ ≤ 233; omega, by show _ ≤ σ.1.2.1 + 15677; omega, ?_⟩
  have m8 : ∀ f q, ¬ (f = 1 ∧ q = 0) → ¬ (f = 225 ∧ q = 0) → Sm h8 (zap (setR h8 1 0 3 (some (7, 0))) 225 0 9) f q := fun f q w1 w2 => Sm.tr (o_r w1) (o_z w2)
  have r8 : ∀ i, hR (zap (setR h8 1 0 3 (some (7, 0))) 225 0 9) 1 0 i = if i = 3 then some (7, 0) else hR h7 1 0 i := fun i => by
    rw [hR_z, if_neg (by omega), hR_r]
    by_cases c : i = 3
    · rw [if_pos c, if_pos ⟨rfl, rfl, c⟩]
    · rw [if_neg c, if_neg (fun w => c w.2.2), (q8.2.2.1 1 0 (by omega)).2.2]
  have z8 : Zr h7 → Zr (zap (setR h8 1 0 3 (some (7, 0))) 225 0 9) := fun z => Zr_z (h := setR h8 1 0 3 (some (7, 0))) (q8.2.1 z) _ _ _
  have a9 : (zap (setR h8 1 0 3 (some (7, 0))) 225 0 9).1.1 = h8.1.1 + 1 := rfl
  have b9 : (zap (setR h8 1 0 3 (some (7, 0))) 225 0 9).1.2.1 = h8.1.2.1 + 9 := rfl
  have l9 : (zap (setR h8 1 0 3 (some (7, 0))) 225 0 9).1.2.2 = h8.1.2.2 := rfl
  generalize zap (setR h8 1 0 3 (some (7, 0))) 225 0 9 = h9 at m8 r8 z8 a9 b9 l9 ⊢
  have r93 : hR h9 1 0 3 = some (7, 0) := by rw [r8, if_pos rfl]
  refine wp_ok (cut := [71]) ma_68 rfl 3 _ _ _ _ ?_
  show (1 < h9.1.1 ∧ Sat false (d + 3) 68 (233, σ.1.2.1 + 15677, σ.1.2.2) Q 71 [some (vr 1 0)] [Sum.inr (Sum.inr (hR h9 1 0 3)), vr 225 0, vr 225 0, vr 1 0] h9)
  rw [r93]
  refine ⟨by omega, ?_⟩
  refine wp_ok (cut := [81]) ma_68 rfl 4 _ _ _ _ ?_
  show CalV false (d + 2) 42 [vr 225 0, vr 7 0] h9 (233, σ.1.2.1 + 15677, σ.1.2.2) (fun s1 => (1 < s1.1.1 ∧ (fkd (fa s1.1.1).1 = (2, 10) ∧ s1.1.1 + 1 ≤ (233, σ.1.2.1 + 15677, σ.1.2.2).1 ∧ s1.1.2.1 + 10 ≤ (233, σ.1.2.1 + 15677, σ.1.2.2).2.1 ∧ Sat false (d + 3) 68 (233, σ.1.2.1 + 15677, σ.1.2.2) Q 81 [some (vr 1 0)] [Sum.inr (Sum.inr (some (fa s1.1.1))), vr 1 0] (zap (setR s1 1 0 4 (some (225, 0))) (fa s1.1.1).1 (fa s1.1.1).2 10))))
  refine cm_v (i_Route (d + 1) (σ := h9) (by omega) (fun t ht => ?_)) ⟨by show h9.1.1 + 3 ≤ 233; omega, by show h9.1.2.1 + 507 ≤ σ.1.2.1 + 15677; omega⟩ (fun h10 q10 w10 => ?_)
  · rw [a9, a8, show 225 + 1 + t = 226 + t by omega]
    exact fa_q (by omega) (by omega)
  have a10 : h10.1.1 = h9.1.1 + 3 := congrArg Prod.fst w10
  have b10 : h10.1.2.1 = h9.1.2.1 + 507 := congrArg (fun q => q.2.1) w10
  have l10 : h10.1.2.2 = h9.1.2.2 := congrArg (fun q => q.2.2) w10
  have e229 : fa h10.1.1 = (229, 0) := by rw [a10, a9, a8]; exact fa_q (by omega) (by omega)
  rw [e229]
  refine ⟨by omega, rfl, by show _ ≤ 233; omega, by show _ ≤ σ.1.2.1 + 15677; omega, ?_⟩
  have m10 : ∀ f q, ¬ (f = 1 ∧ q = 0) → ¬ (f = 229 ∧ q = 0) → Sm h10 (zap (setR h10 1 0 4 (some (225, 0))) 229 0 10) f q := fun f q w1 w2 => Sm.tr (o_r w1) (o_z w2)
  have r10 : ∀ i, hR (zap (setR h10 1 0 4 (some (225, 0))) 229 0 10) 1 0 i = if i = 4 then some (225, 0) else hR h9 1 0 i := fun i => by
    rw [hR_z, if_neg (by omega), hR_r]
    by_cases c : i = 4
    · rw [if_pos c, if_pos ⟨rfl, rfl, c⟩]
    · rw [if_neg c, if_neg (fun w => c w.2.2), (q10.1 1 0 (by omega)).2.2]
  have z10 : Zr h9 → Zr (zap (setR h10 1 0 4 (some (225, 0))) 229 0 10) := fun z => Zr_z (h := setR h10 1 0 4 (some (225, 0))) (q10.2.1 z) _ _ _
  have a11 : (zap (setR h10 1 0 4 (some (225, 0))) 229 0 10).1.1 = h10.1.1 + 1 := rfl
  have b11 : (zap (setR h10 1 0 4 (some (225, 0))) 229 0 10).1.2.1 = h10.1.2.1 + 10 := rfl
  have l11 : (zap (setR h10 1 0 4 (some (225, 0))) 229 0 10).1.2.2 = h10.1.2.2 := rfl
  generalize zap (setR h10 1 0 4 (some (225, 0))) 229 0 10 = h11 at m10 r10 z10 a11 b11 l11 ⊢
  have r113 : hR h11 1 0 3 = some (7, 0) := by rw [r10, if_neg (by omega), r8, if_pos rfl]
  refine wp_ok (cut := [86]) ma_68 rfl 3 _ _ _ _ ?_
  show (1 < h11.1.1 ∧ Sat false (d + 3) 68 (233, σ.1.2.1 + 15677, σ.1.2.2) Q 86 [some (vr 1 0)] [Sum.inr (Sum.inr (hR h11 1 0 3)), vr 229 0, vr 229 0, vr 1 0] h11)
  rw [r113]
  refine ⟨by omega, ?_⟩
  refine wp_ok (cut := []) ma_68 rfl 3 _ _ _ _ ?_
  show CalV false (d + 2) 15 [vr 229 0, vr 7 0] h11 (233, σ.1.2.1 + 15677, σ.1.2.2) (fun s1 => (1 < s1.1.1 ∧ (Q none (setR s1 1 0 5 (some (229, 0))) ∧ s1.1 = (233, σ.1.2.1 + 15677, σ.1.2.2))))
  refine cm_v (i_Mender (d + 1) (σ := h11) (by omega) (fun t ht => ?_)) ⟨by show h11.1.1 + 3 ≤ 233; omega, by show h11.1.2.1 + 34 ≤ σ.1.2.1 + 15677; omega⟩ (fun h12 q12 w12 => ?_)
  · rw [a11, a10, a9, a8, show 225 + 1 + 3 + 1 + t = 230 + t by omega]
    exact fa_q (by omega) (by omega)
  have a12 : h12.1.1 = h11.1.1 + 3 := congrArg Prod.fst w12
  have b12 : h12.1.2.1 = h11.1.2.1 + 34 := congrArg (fun q => q.2.1) w12
  have l12 : h12.1.2.2 = h11.1.2.2 := congrArg (fun q => q.2.2) w12
  -- what stays from the sites on
  have st : ∀ f q, ¬ (f = 1 ∧ q = 0) → ¬ (225 ≤ f ∧ f ≤ 232 ∧ q = 0) → Sm h8 (setR h12 1 0 5 (some (229, 0))) f q := fun f q w1 w2 => ((((m8 f q w1 (by omega)).tr (q10.1 f q (by omega))).tr (m10 f q w1 (by omega))).tr (q12.1 f q (by omega))).tr (o_r w1)
  refine ⟨by omega, hq _ ⟨?_, ?_, ?_, ?_, ?_, ?_, ?_, ?_, ?_⟩, ?_⟩
  · intro z
    exact q12.2.1 (z10 (z8 (k7.2.1 z)))
  · intro f q hf
    obtain ⟨s1, s2, s3⟩ := st f q (by omega) (by omega)
    obtain ⟨t1, t2, t3⟩ := q8.2.2.1 f q (by omega)
    obtain ⟨u1, u2, u3⟩ := k7.1 f q (by omega)
    exact ⟨s1.trans (t1.trans u1), s2.trans (t2.trans u2), s3.trans (t3.trans u3)⟩
  · intro q hq
    have r12 : ∀ i, hR (setR h12 1 0 5 (some (229, 0))) 1 0 i = if i = 5 then some (229, 0) else if i = 4 then some (225, 0) else if i = 3 then some (7, 0) else hR h7 1 0 i := fun i => by
      rw [hR_r]
      by_cases c : i = 5
      · rw [if_pos c, if_pos ⟨rfl, rfl, c⟩]
      · rw [if_neg c, if_neg (fun w => c w.2.2), (q12.1 1 0 (by omega)).2.2, r10, r8]
    have hq : q ∈ [(0, 2), (2, 5), (3, 7), (4, 225), (5, 229), (6, 3), (8, 4)] := hq
    rw [r12]
    have k73 := k7.2.2.1
    rcases (by simpa using hq : q = (0, 2) ∨ q = (2, 5) ∨ q = (3, 7) ∨ q = (4, 225) ∨ q = (5, 229) ∨ q = (6, 3) ∨ q = (8, 4)) with e | e | e | e | e | e | e
    · rw [e]; exact k73 (0, 2) (by decide)
    · rw [e]; exact k73 (2, 5) (by decide)
    · rw [e]; rfl
    · rw [e]; rfl
    · rw [e]; rfl
    · rw [e]; exact k73 (6, 3) (by decide)
    · rw [e]; exact k73 (8, 4) (by decide)
  · intro k
    rw [(st 3 0 (by omega) (by omega)).2.2, (q8.2.2.1 3 0 (by omega)).2.2]
    exact n7 k
  · exact Rf_eq (st 7 0 (by omega) (by omega)).2.2 q8.2.2.2.1
  · exact Rf_eq (st 8 0 (by omega) (by omega)).2.2 q8.2.2.2.2.1
  · intro q hq
    obtain ⟨s1, s2, s3, s4, s5⟩ := q8.2.2.2.2.2 q hq
    refine ⟨Rf_eq (st 21 q (by omega) (by omega)).2.2 s1, Rf_eq (st 32 q (by omega) (by omega)).2.2 s2, ?_, ?_, ?_⟩
    · rw [(st 18 0 (by omega) (by omega)).2.2]; exact s3
    · rw [(st 19 0 (by omega) (by omega)).2.2]; exact s4
    · rw [(st 21 q (by omega) (by omega)).1]; exact s5
  · refine Rf_eq (h := h10) ?_ (Rf_of q10 (by decide))
    exact (((m10 225 0 (by omega) (by omega)).tr (q12.1 225 0 (by omega))).tr (o_r (by omega))).2.2
  · refine Rf_eq (h := h12) (o_r (by omega)).2.2 (Rf_of q12 (by decide))
  · show h12.1 = _
    rw [show h12.1 = (h12.1.1, h12.1.2.1, h12.1.2.2) from rfl]
    refine Prod.ext ?_ (Prod.ext ?_ ?_)
    · show h12.1.1 = 233
      omega
    · show h12.1.2.1 = σ.1.2.1 + 15677
      omega
    · show h12.1.2.2 = σ.1.2.2
      rw [l12, l11, l10, l9, l8, l7]
