/-! the constructor of Site -/
theorem fa_0 {i : Nat} (h : i < 21) : fa i = (i, 0) := if_pos h
theorem fa_p {f p : Nat} (h1 : 21 ≤ f) (h2 : f ≤ 37) (hp : p < 12) : fa (f + 17 * p) = (f, p) := by
  unfold fa
  rw [if_neg (by omega), if_pos (by omega)]
  exact Prod.ext (by show 21 + (f + 17 * p - 21) % 17 = f; omega) (by show (f + 17 * p - 21) / 17 = p; omega)
theorem fa_q {i : Nat} (h1 : 225 ≤ i) (h2 : i < 266) : fa i = (i, 0) := by
  unfold fa
  rw [if_neg (by omega), if_neg (by omega), if_pos h2]
theorem fa_s {f m : Nat} (h1 : 8 ≤ f) (h2 : f ≤ 17) : fa (266 + 10 * m + (f - 8)) = (f, m + 1) := by
  unfold fa
  rw [if_neg (by omega), if_neg (by omega), if_neg (by omega)]
  exact Prod.ext (by show 8 + (266 + 10 * m + (f - 8) - 266) % 10 = f; omega) (by show (266 + 10 * m + (f - 8) - 266) / 10 + 1 = m + 1; omega)
def Rf (h : Hp) (f p : Nat) : Prop := ∀ q ∈ srT.getD f [], hR h f p q.1 = some (q.2, p)
theorem Rf_eq {h h' : Hp} {f p : Nat} (e : hR h' f p = hR h f p) (k : Rf h f p) : Rf h' f p := fun q hq => by rw [e]; exact k q hq
theorem Rf_of {N : Nat} {σ h : Hp} {F p : Nat} {dn : List (Nat × Nat)} {c s : Nat} (k : MkI N σ h F p dn c s) (e : ∀ q ∈ srT.getD F [], q ∈ dn) : Rf h F p := fun q hq => k.2.2.1 q (e q hq)
theorem mk_sub {N N' : Nat} {σ h h' : Hp} {F F' p : Nat} {dn dn' : List (Nat × Nat)} {c s c' s' : Nat} (k : MkI N σ h F p dn c s) (k' : MkI N' h h' F' p dn' c' s') (h1 : F < F') (h2 : F' + N' ≤ F + N) : MkI N σ h' F p dn (c + c') (s + s') := by
  obtain ⟨k1, k2, k3, k4⟩ := k
  obtain ⟨j1, j2, j3, j4⟩ := k'
  refine ⟨fun f q w => ?_, fun z => j2 (k2 z), fun q hq => ?_, ?_⟩
  · obtain ⟨a1, a2, a3⟩ := k1 f q w
    obtain ⟨b1, b2, b3⟩ := j1 f q (fun e => w (by omega))
    exact ⟨b1.trans a1, b2.trans a2, b3.trans a3⟩
  · rw [(j1 F p (fun e => by omega)).2.2]
    exact k3 q hq
  · rw [j4, k4]
    show (σ.1.1 + c + c', σ.1.2.1 + s + s', σ.1.2.2) = _
    rw [Nat.add_assoc, Nat.add_assoc]
def StI (σ h : Hp) (p : Nat) : Prop := h.1 = (21 + 17 * p, σ.1.2.1 + 2148 + 1065 * p, σ.1.2.2) ∧ (Zr σ → Zr h) ∧ (∀ f q, ¬ (7 ≤ f ∧ f ≤ 37) → hI h f q = hI σ f q ∧ hL h f q = hL σ f q ∧ hR h f q = hR σ f q) ∧ Rf h 7 0 ∧ Rf h 8 0 ∧ ∀ q, q < p → Rf h 21 q ∧ Rf h 32 q ∧ hR h 18 0 q = some (21, q) ∧ hR h 19 0 q = some (32, q) ∧ hI h 21 q 0 = nI q
theorem Zr_z {h : Hp} (z : Zr h) (f p n : Nat) : Zr (zap h f p n) := fun f' q i hf hn => by
  rw [hI_z]
  split
  · rfl
  · exact z f' q i hf hn
set_option maxRecDepth 6000 in
theorem i_Site (d : Nat) {σ : Hp} (h8 : σ.1.1 = 8) : MV (d + 2) 48 [vr 7 0] σ (225, σ.1.2.1 + 14928, σ.1.2.2) (fun h => StI σ h 12) := by
  refine MV_of mt_48 (Nat.le_of_ble_eq_true rfl) ⟨by show σ.1.1 ≤ 225; omega, Nat.le_add_right _ _⟩ fun Q hq => ?_
  have loop : ∀ (n p : Nat) (h : Hp), p + n = 12 → StI σ h p → Sat false (d + 2) 48 (225, σ.1.2.1 + 14928, σ.1.2.2) Q 48 [some (vr 7 0), some (vi (nI p))] [] h := by
    intro n
    induction n with
    | zero =>
      intro p h hp k
      have hp : p = 12 := hp
      subst hp
      refine wp_ok (cut := [48, 58]) ma_48 rfl 5 _ _ _ _ ?_
      show (((nI 12) ≤ (nI 12) → (Q none h ∧ h.1 = (225, σ.1.2.1 + 14928, σ.1.2.2))) ∧ (¬ (nI 12) ≤ (nI 12) → (7 < h.1.1 ∧ Sat false (d + 2) 48 (225, σ.1.2.1 + 14928, σ.1.2.2) Q 58 [some (vr 7 0), some (vi (nI 12))] [Sum.inr (Sum.inr (hR h 7 0 1))] h)))
      exact br_le (by omega) (by omega) (fun _ => ⟨hq h k, k.1⟩) (fun g => by omega)
    | succ n ih =>
      intro p h hp k
      have hp12 : p < 12 := by omega
      obtain ⟨k1, k2, k3, k4, k5, k6⟩ := k
      have c1 : h.1.1 = 21 + 17 * p := congrArg Prod.fst k1
      have c2 : h.1.2.1 = σ.1.2.1 + 2148 + 1065 * p := congrArg (fun q => q.2.1) k1
      have c3 : h.1.2.2 = σ.1.2.2 := congrArg (fun q => q.2.2) k1
      have r1 : hR h 7 0 1 = some (18, 0) := k4 (1, 18) (by decide)
      have r2 : hR h 7 0 2 = some (19, 0) := k4 (2, 19) (by decide)
      have e1 : fa h.1.1 = (21, p) := by rw [c1]; exact fa_p (by omega) (by omega) hp12
      refine wp_ok (cut := [48, 58]) ma_48 rfl 5 _ _ _ _ ?_
      show (((nI 12) ≤ (nI p) → (Q none h ∧ h.1 = (225, σ.1.2.1 + 14928, σ.1.2.2))) ∧ (¬ (nI 12) ≤ (nI p) → (7 < h.1.1 ∧ Sat false (d + 2) 48 (225, σ.1.2.1 + 14928, σ.1.2.2) Q 58 [some (vr 7 0), some (vi (nI p))] [Sum.inr (Sum.inr (hR h 7 0 1))] h)))
      rw [r1]
      refine br_le (by omega) (by omega) (fun g => by omega) (fun _ => ⟨by omega, ?_⟩)
      refine wp_ok (cut := [48, 62]) ma_48 rfl 2 _ _ _ _ ?_
      show (fkd (fa h.1.1).1 = (3, 16) ∧ h.1.1 + 1 ≤ (225, σ.1.2.1 + 14928, σ.1.2.2).1 ∧ h.1.2.1 + 16 ≤ (225, σ.1.2.1 + 14928, σ.1.2.2).2.1 ∧ Sat false (d + 2) 48 (225, σ.1.2.1 + 14928, σ.1.2.2) Q 62 [some (vr 7 0), some (vi (nI p))] [Sum.inr (Sum.inr (some (fa h.1.1))), vi (nI p), vr 18 0] (zap h (fa h.1.1).1 (fa h.1.1).2 16))
      rw [e1]
      refine ⟨rfl, by show _ ≤ 225; omega, by show _ ≤ σ.1.2.1 + 14928; omega, ?_⟩
      refine wp_ok (cut := [48, 72]) ma_48 rfl 6 _ _ _ _ ?_
      show CalV false (d + 1) 21 [vr 21 p, vi (nI p)] (zap h 21 p 16) (225, σ.1.2.1 + 14928, σ.1.2.2) (fun s1 => (18 < s1.1.1 ∧ (p < 12 ∧ 21 + 17 * p < s1.1.1 ∧ (vp_in (nI p) 12 ∧ (7 < s1.1.1 ∧ Sat false (d + 2) 48 (225, σ.1.2.1 + 14928, σ.1.2.2) Q 72 [some (vr 7 0), some (vi (nI p))] [Sum.inr (Sum.inr (hR s1 7 0 2))] (setR s1 18 0 ((nI p).toNatClampNeg) (some (21, p))))))))
      refine cm_v (i_Outline d (σ := zap h 21 p 16) hp12 (by show _ < h.1.1 + 1; omega) (fun t ht => ?_)) ⟨by show h.1.1 + 1 + 10 ≤ 225; omega, by show h.1.2.1 + 16 + 586 ≤ σ.1.2.1 + 14928; omega⟩ (fun h1 q1 e3 => ?_)
      · show fa (h.1.1 + 1 + t) = _
        rw [c1, show 21 + 17 * p + 1 + t = (22 + t) + 17 * p by omega]
        exact fa_p (by omega) (by omega) hp12
      obtain ⟨q1, own⟩ := q1
      have f1 : h1.1.1 = h.1.1 + 1 + 10 := congrArg Prod.fst e3
      have f2 : h1.1.2.1 = h.1.2.1 + 16 + 586 := congrArg (fun q => q.2.1) e3
      have f3 : h1.1.2.2 = h.1.2.2 := congrArg (fun q => q.2.2) e3
      have o1 : ∀ f q, ¬ (21 ≤ f ∧ f ≤ 31 ∧ q = p) → hI h1 f q = hI h f q ∧ hL h1 f q = hL h f q ∧ hR h1 f q = hR h f q := fun f q w => by
        obtain ⟨a1, a2, a3⟩ := q1.1 f q w
        have nn : ¬ (f = 21 ∧ q = p) := fun e => w (by omega)
        exact ⟨a1.trans (funext fun i => by rw [hI_z, if_neg nn]), a2.trans (funext fun i => by rw [hL_z, if_neg nn]), a3.trans (funext fun i => by rw [hR_z, if_neg nn])⟩
      have r2' : hR h1 7 0 2 = some (19, 0) := by rw [(o1 7 0 (by omega)).2.2]; exact r2
      have e2 : fa (setR h1 18 0 p (some (21, p))).1.1 = (32, p) := by
        show fa h1.1.1 = _
        rw [f1, c1, show 21 + 17 * p + 1 + 10 = 32 + 17 * p by omega]
        exact fa_p (by omega) (by omega) hp12
      rw [ix (by omega), r2']
      refine ⟨by omega, hp12, by omega, inb (by omega) (by omega), by omega, ?_⟩
      refine wp_ok (cut := [48, 76]) ma_48 rfl 2 _ _ _ _ ?_
      show (fkd (fa (setR h1 18 0 p (some (21, p))).1.1).1 = (1, 10) ∧ (setR h1 18 0 p (some (21, p))).1.1 + 1 ≤ (225, σ.1.2.1 + 14928, σ.1.2.2).1 ∧ (setR h1 18 0 p (some (21, p))).1.2.1 + 10 ≤ (225, σ.1.2.1 + 14928, σ.1.2.2).2.1 ∧ Sat false (d + 2) 48 (225, σ.1.2.1 + 14928, σ.1.2.2) Q 76 [some (vr 7 0), some (vi (nI p))] [Sum.inr (Sum.inr (some (fa (setR h1 18 0 p (some (21, p))).1.1))), vi (nI p), vr 19 0] (zap (setR h1 18 0 p (some (21, p))) (fa (setR h1 18 0 p (some (21, p))).1.1).1 (fa (setR h1 18 0 p (some (21, p))).1.1).2 10))
      rw [e2]
      refine ⟨rfl, by show h1.1.1 + 1 ≤ 225; omega, by show h1.1.2.1 + 10 ≤ σ.1.2.1 + 14928; omega, ?_⟩
      refine wp_ok (cut := [48]) ma_48 rfl 5 _ _ _ _ ?_
      show CalV false (d + 1) 7 [vr 32 p] (zap (setR h1 18 0 p (some (21, p))) 32 p 10) (225, σ.1.2.1 + 14928, σ.1.2.2) (fun s1 => (19 < s1.1.1 ∧ (p < 12 ∧ 32 + 17 * p < s1.1.1 ∧ (vp_in (nI p) 12 ∧ Sat false (d + 2) 48 (225, σ.1.2.1 + 14928, σ.1.2.2) Q 48 [some (vr 7 0), some (vi ((nI p) + nI 1))] [] (setR s1 19 0 ((nI p).toNatClampNeg) (some (32, p)))))))
      refine cm_v (i_Expansion d (σ := zap (setR h1 18 0 p (some (21, p))) 32 p 10) hp12 (by show _ < h1.1.1 + 1; omega) (fun t ht => ?_)) ⟨by show h1.1.1 + 1 + 5 ≤ 225; omega, by show h1.1.2.1 + 10 + 453 ≤ σ.1.2.1 + 14928; omega⟩ (fun h3 q3 e4 => ?_)
      · show fa (h1.1.1 + 1 + t) = _
        rw [f1, c1, show 21 + 17 * p + 1 + 10 + 1 + t = (33 + t) + 17 * p by omega]
        exact fa_p (by omega) (by omega) hp12
      have g1 : h3.1.1 = h1.1.1 + 1 + 5 := congrArg Prod.fst e4
      have g2 : h3.1.2.1 = h1.1.2.1 + 10 + 453 := congrArg (fun q => q.2.1) e4
      have g3 : h3.1.2.2 = h1.1.2.2 := congrArg (fun q => q.2.2) e4
      have o3 : ∀ f q, ¬ (32 ≤ f ∧ f ≤ 37 ∧ q = p) → hI h3 f q = hI h1 f q ∧ hL h3 f q = hL h1 f q ∧ hR h3 f q = hR (setR h1 18 0 p (some (21, p))) f q := fun f q w => by
        obtain ⟨a1, a2, a3⟩ := q3.1 f q w
        have nn : ¬ (f = 32 ∧ q = p) := fun e => w (by omega)
        exact ⟨a1.trans (funext fun i => by rw [hI_z, if_neg nn]; rfl), a2.trans (funext fun i => by rw [hL_z, if_neg nn]; rfl), a3.trans (funext fun i => by rw [hR_z, if_neg nn])⟩
      rw [ix (by omega), addN]
      refine ⟨by omega, hp12, by omega, inb (by omega) (by omega), ih (p + 1) _ (by omega) ⟨?_, ?_, ?_, ?_, ?_, ?_⟩⟩
      · show h3.1 = _
        rw [show h3.1 = (h3.1.1, h3.1.2.1, h3.1.2.2) from rfl, g1, f1, c1, g2, f2, c2, g3, f3, c3]
        refine Prod.ext ?_ (Prod.ext ?_ rfl)
        · show 21 + 17 * p + 1 + 10 + 1 + 5 = 21 + 17 * (p + 1)
          omega
        · show σ.1.2.1 + 2148 + 1065 * p + 16 + 586 + 10 + 453 = σ.1.2.1 + 2148 + 1065 * (p + 1)
          omega
      · intro z
        have z1 : Zr h1 := q1.2.1 (Zr_z (k2 z) _ _ _)
        have z2 : Zr (setR h1 18 0 p (some (21, p))) := z1
        exact q3.2.1 (Zr_z z2 _ _ _)
      · intro f q w
        obtain ⟨a1, a2, a3⟩ := k3 f q w
        obtain ⟨b1, b2, b3⟩ := o1 f q (fun e => w (by omega))
        obtain ⟨d1, d2, d3⟩ := o3 f q (fun e => w (by omega))
        refine ⟨d1.trans (b1.trans a1), d2.trans (b2.trans a2), funext fun i => ?_⟩
        rw [hR_r, if_neg (by omega), d3, hR_r, if_neg (by omega), b3, a3]
      · refine Rf_eq (funext fun i => ?_) k4
        rw [hR_r, if_neg (by omega), (o3 7 0 (by omega)).2.2, hR_r, if_neg (by omega), (o1 7 0 (by omega)).2.2]
      · refine Rf_eq (funext fun i => ?_) k5
        rw [hR_r, if_neg (by omega), (o3 8 0 (by omega)).2.2, hR_r, if_neg (by omega), (o1 8 0 (by omega)).2.2]
      · intro q hq
        by_cases c : q = p
        · subst c
          refine ⟨?_, ?_, ?_, ?_, ?_⟩
          · refine Rf_eq (funext fun i => ?_) (Rf_of q1 (by decide))
            rw [hR_r, if_neg (by omega), (o3 21 q (by omega)).2.2, hR_r, if_neg (by omega)]
          · refine Rf_eq (funext fun i => ?_) (Rf_of q3 (by decide))
            rw [hR_r, if_neg (by omega)]
          · rw [hR_r, if_neg (by omega), (o3 18 0 (by omega)).2.2, hR_r, if_pos ⟨rfl, rfl, rfl⟩]
          · rw [hR_r, if_pos ⟨rfl, rfl, rfl⟩]
          · show hI h3 21 q 0 = _
            rw [(o3 21 q (by omega)).1]
            exact own
        · obtain ⟨a1, a2, a3, a4, a5⟩ := k6 q (by omega)
          refine ⟨?_, ?_, ?_, ?_, ?_⟩
          · refine Rf_eq (funext fun i => ?_) a1
            rw [hR_r, if_neg (by omega), (o3 21 q (by omega)).2.2, hR_r, if_neg (by omega), (o1 21 q (by omega)).2.2]
          · refine Rf_eq (funext fun i => ?_) a2
            rw [hR_r, if_neg (by omega), (o3 32 q (by omega)).2.2, hR_r, if_neg (by omega), (o1 32 q (by omega)).2.2]
          · rw [hR_r, if_neg (by omega), (o3 18 0 (by omega)).2.2, hR_r, if_neg (by omega), (o1 18 0 (by omega)).2.2]
            exact a3
          · rw [hR_r, if_neg (by omega), (o3 19 0 (by omega)).2.2, hR_r, if_neg (by omega), (o1 19 0 (by omega)).2.2]
            exact a4
          · show hI h3 21 q 0 = _
            rw [(o3 21 q (by omega)).1, (o1 21 q (by omega)).1]
            exact a5
  have e8 : fa σ.1.1 = (8, 0) := by rw [h8]; exact fa_0 (by omega)
  refine wp_ok (cut := [8]) ma_48 rfl 4 _ _ _ _ ?_
  show (fkd (fa σ.1.1).1 = (7, 11) ∧ σ.1.1 + 1 ≤ (225, σ.1.2.1 + 14928, σ.1.2.2).1 ∧ σ.1.2.1 + 11 ≤ (225, σ.1.2.1 + 14928, σ.1.2.2).2.1 ∧ Sat false (d + 2) 48 (225, σ.1.2.1 + 14928, σ.1.2.2) Q 8 [some (vr 7 0), none] [Sum.inr (Sum.inr (some (fa σ.1.1))), vr 7 0] (zap σ (fa σ.1.1).1 (fa σ.1.1).2 11))
  rw [e8]
  refine ⟨rfl, by show _ ≤ 225; omega, by show _ ≤ σ.1.2.1 + 14928; omega, ?_⟩
  refine wp_ok (cut := [21]) ma_48 rfl 6 _ _ _ _ ?_
  show CalV false (d + 1) 58 [vr 8 0] (zap σ 8 0 11) (225, σ.1.2.1 + 14928, σ.1.2.2) (fun s1 => (7 < s1.1.1 ∧ (¬ (nI 12) < 0 ∧ fkd (fa s1.1.1).1 = (24, 12) ∧ s1.1.1 + 1 ≤ (225, σ.1.2.1 + 14928, σ.1.2.2).1 ∧ s1.1.2.1 + 12 ≤ (225, σ.1.2.1 + 14928, σ.1.2.2).2.1 ∧ Sat false (d + 2) 48 (225, σ.1.2.1 + 14928, σ.1.2.2) Q 21 [some (vr 7 0), none] [Sum.inr (Sum.inr (some (fa s1.1.1))), vr 7 0] (zap (setR s1 7 0 0 (some (8, 0))) (fa s1.1.1).1 (fa s1.1.1).2 12))))
  refine cm_v (i_State d (σ := zap σ 8 0 11) (i := 0) (by show 8 < σ.1.1 + 1; omega) (fun t ht => ?_)) ⟨by show σ.1.1 + 1 + 9 ≤ 225; omega, by show σ.1.2.1 + 11 + 2100 ≤ σ.1.2.1 + 14928; omega⟩ (fun h1 q1 e1 => ?_)
  · show fa (σ.1.1 + 1 + t) = _
    rw [h8, show 8 + 1 + t = 9 + t by omega]
    exact fa_0 (by omega)
  have k1 : MkI 30 σ h1 7 0 [] (0 + 1 + 9) (0 + 11 + 2100) := mk_sub (mk_z (g := 8) (mk_0 (N := 30) σ 7 0) (by omega) (by omega) 11) q1 (by omega) (by omega)
  have s8 : Rf h1 8 0 := Rf_of q1 (by decide)
  have f1 : h1.1.1 = σ.1.1 + 1 + 9 := congrArg Prod.fst e1
  have f2 : h1.1.2.1 = σ.1.2.1 + 11 + 2100 := congrArg (fun q => q.2.1) e1
  have e18 : fa h1.1.1 = (18, 0) := by rw [f1, h8]; exact fa_0 (by omega)
  rw [e18]
  refine ⟨by omega, nn0 12 (by omega), rfl, by show _ ≤ 225; omega, by show _ ≤ σ.1.2.1 + 14928; omega, ?_⟩
  have k2 := mk_z (g := 18) (mk_R (i := 0) (g := 8) k1 (by decide)) (by omega) (by omega) 12
  have t8 : Rf (zap (setR h1 7 0 0 (some (8, 0))) 18 0 12) 8 0 := Rf_eq (funext fun i => by rw [hR_z, if_neg (by omega), hR_r, if_neg (by omega)]) s8
  have f3 : (zap (setR h1 7 0 0 (some (8, 0))) 18 0 12).1.1 = h1.1.1 + 1 := rfl
  have f4 : (zap (setR h1 7 0 0 (some (8, 0))) 18 0 12).1.2.1 = h1.1.2.1 + 12 := rfl
  generalize zap (setR h1 7 0 0 (some (8, 0))) 18 0 12 = h2 at k2 t8 f3 f4 ⊢
  have e19 : fa h2.1.1 = (19, 0) := by rw [f3, f1, h8]; exact fa_0 (by omega)
  refine wp_ok (cut := [30]) ma_48 rfl 4 _ _ _ _ ?_
  show (7 < h2.1.1 ∧ (¬ (nI 12) < 0 ∧ fkd (fa h2.1.1).1 = (25, 12) ∧ h2.1.1 + 1 ≤ (225, σ.1.2.1 + 14928, σ.1.2.2).1 ∧ h2.1.2.1 + 12 ≤ (225, σ.1.2.1 + 14928, σ.1.2.2).2.1 ∧ Sat false (d + 2) 48 (225, σ.1.2.1 + 14928, σ.1.2.2) Q 30 [some (vr 7 0), none] [Sum.inr (Sum.inr (some (fa h2.1.1))), vr 7 0] (zap (setR h2 7 0 1 (some (18, 0))) (fa h2.1.1).1 (fa h2.1.1).2 12)))
  rw [e19]
  refine ⟨by omega, nn0 12 (by omega), rfl, by show _ ≤ 225; omega, by show _ ≤ σ.1.2.1 + 14928; omega, ?_⟩
  have k3 := mk_z (g := 19) (mk_R (i := 1) (g := 18) k2 (by decide)) (by omega) (by omega) 12
  have u8 : Rf (zap (setR h2 7 0 1 (some (18, 0))) 19 0 12) 8 0 := Rf_eq (funext fun i => by rw [hR_z, if_neg (by omega), hR_r, if_neg (by omega)]) t8
  have f5 : (zap (setR h2 7 0 1 (some (18, 0))) 19 0 12).1.1 = h2.1.1 + 1 := rfl
  have f6 : (zap (setR h2 7 0 1 (some (18, 0))) 19 0 12).1.2.1 = h2.1.2.1 + 12 := rfl
  generalize zap (setR h2 7 0 1 (some (18, 0))) 19 0 12 = h3 at k3 u8 f5 f6 ⊢
  have e20 : fa h3.1.1 = (20, 0) := by rw [f5, f3, f1, h8]; exact fa_0 (by omega)
  refine wp_ok (cut := [38]) ma_48 rfl 4 _ _ _ _ ?_
  show (7 < h3.1.1 ∧ (¬ (nI 13) < 0 ∧ fkd (fa h3.1.1).1 = (21, 13) ∧ h3.1.1 + 1 ≤ (225, σ.1.2.1 + 14928, σ.1.2.2).1 ∧ h3.1.2.1 + 13 ≤ (225, σ.1.2.1 + 14928, σ.1.2.2).2.1 ∧ Sat false (d + 2) 48 (225, σ.1.2.1 + 14928, σ.1.2.2) Q 38 [some (vr 7 0), none] [Sum.inr (Sum.inr (some (fa h3.1.1))), vr 7 0] (zap (setR h3 7 0 2 (some (19, 0))) (fa h3.1.1).1 (fa h3.1.1).2 13)))
  rw [e20]
  refine ⟨by omega, nn0 13 (by omega), rfl, by show _ ≤ 225; omega, by show _ ≤ σ.1.2.1 + 14928; omega, ?_⟩
  have k4 := mk_z (g := 20) (mk_R (i := 2) (g := 19) k3 (by decide)) (by omega) (by omega) 13
  have v8 : Rf (zap (setR h3 7 0 2 (some (19, 0))) 20 0 13) 8 0 := Rf_eq (funext fun i => by rw [hR_z, if_neg (by omega), hR_r, if_neg (by omega)]) u8
  have f7 : (zap (setR h3 7 0 2 (some (19, 0))) 20 0 13).1.1 = h3.1.1 + 1 := rfl
  generalize zap (setR h3 7 0 2 (some (19, 0))) 20 0 13 = h4 at k4 v8 f7 ⊢
  refine wp_ok (cut := [48]) ma_48 rfl 6 _ _ _ _ ?_
  show (7 < h4.1.1 ∧ (7 < h4.1.1 ∧ Sat false (d + 2) 48 (225, σ.1.2.1 + 14928, σ.1.2.2) Q 48 [some (vr 7 0), some (vi (nI 0))] [] (setI (setR h4 7 0 3 (some (20, 0))) 7 0 4 (nI 0))))
  have k5 := mk_I (i := 4) (x := nI 0) (mk_R (i := 3) (g := 20) k4 (by decide)) (Or.inr rfl)
  refine ⟨by omega, by omega, loop 12 0 _ (by omega) ⟨?_, k5.2.1, fun f q w => k5.1 f q (fun e => w (by omega)), Rf_of k5 (by decide), ?_, fun q hq => absurd hq (Nat.not_lt_zero _)⟩⟩
  · rw [k5.2.2.2, h8]
  · refine Rf_eq (funext fun i => ?_) v8
    show hR (setR h4 7 0 3 (some (20, 0))) 8 0 i = _
    rw [hR_r, if_neg (by omega)]
