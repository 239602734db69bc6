/-! isHeading, heading, anchor: the class and the model -/
section
variable {σ : Hp} {P : Nat → List Line} {X : Nat → XA} {rs : List (Pl × Pl)} {es : List En}
theorem e_isHeading (d : Nat) (cs : CS σ P X rs es) (a b : Int32) : EI (d + 1) 94 [vr 1 0, vi a, vi b] σ (bI (hdB X a b)) σ := by
  refine EI_of mt_94 (Nat.le_of_ble_eq_true rfl) fun Q hq => ?_
  unfold hdB at hq
  refine wp_ok (cut := []) ma_94 rfl 16 _ _ _ _ ?_
  show CalI true d 93 [vi a] σ σ.1 (fun x2 s1 => ((x2 = 0 → (((nI 0) = 0 ∨ (nI 0) = 1) ∧ (Q (some (vi (nI 0))) s1 ∧ s1.1 = σ.1))) ∧ (¬ x2 = 0 → ((b < 0 → (((nI 0) = 0 ∨ (nI 0) = 1) ∧ (Q (some (vi (nI 0))) s1 ∧ s1.1 = σ.1))) ∧ (¬ b < 0 → (vp_in a 12 ∧ (a.toNatClampNeg < 12 ∧ (((hI s1 32 a.toNatClampNeg 2) ≤ b → (((nI 0) = 0 ∨ (nI 0) = 1) ∧ (Q (some (vi (nI 0))) s1 ∧ s1.1 = σ.1))) ∧ (¬ (hI s1 32 a.toNatClampNeg 2) ≤ b → (((nI 1) = 0 ∨ (nI 1) = 1) ∧ (Q (some (vi (nI 1))) s1 ∧ s1.1 = σ.1)))))))))))
  refine cal_i (e_isPage d σ a) rfl (brI (fun h => ?_) (fun h => ?_))
  · rw [h] at hq
    exact ⟨Or.inl rfl, hq, rfl⟩
  · rw [h, Bool.true_and] at hq
    obtain ⟨p, hp, rfl⟩ := rngI_t (by omega) h
    rw [ix (by omega)] at hq ⊢
    have hs := (cs.2.2.1 p hp).2.2.1
    rw [hs.1]
    unfold rngI at hq
    refine ⟨fun g => ?_, fun g => ⟨inb hp (by omega), hp, fun g2 => ?_, fun g2 => ?_⟩⟩
    · rw [decide_eq_false (fun w => Int32.not_lt.mpr w.1 g)] at hq
      exact ⟨Or.inl rfl, hq, rfl⟩
    · rw [decide_eq_false (fun w => Int32.not_lt.mpr g2 w.2)] at hq
      exact ⟨Or.inl rfl, hq, rfl⟩
    · rw [decide_eq_true ⟨not_ltI g, Int32.not_le.mp g2⟩] at hq
      exact ⟨Or.inr rfl, hq, rfl⟩
theorem m_isHeading (d : Nat) (ms : MS σ P X rs es) (a b : Int32) : PI (d + 6) 159 [vr 233 0, vi a, vi b] σ (bI (hdB X a b)) (fun h => MS h P X rs es ∧ LdX h P X ∧ FrM SLay σ h) := by
  refine PI_of mt_159 (Nat.le_of_ble_eq_true rfl) fun Q hq => ?_
  unfold hdB at hq
  refine wp_ok (cut := []) ma_159 rfl 18 _ _ _ _ ?_
  show CalV true (d + 5) 157 [vr 233 0] σ σ.1 (fun s1 => CalI true (d + 5) 109 [vi a] s1 σ.1 (fun x3 s2 => ((x3 = 0 → (((nI 0) = 0 ∨ (nI 0) = 1) ∧ (Q (some (vi (nI 0))) s2 ∧ s2.1 = σ.1))) ∧ (¬ x3 = 0 → (vp_in a 12 ∧ CalI true (d + 5) 108 [vi b, vi (nI 0), vi ((hI s2 241 0 a.toNatClampNeg) - (nI 1))] s2 σ.1 (fun x5 s4 => ((x5 = 0 → (((nI 0) = 0 ∨ (nI 0) = 1) ∧ (Q (some (vi (nI 0))) s4 ∧ s4.1 = σ.1))) ∧ (¬ x5 = 0 → (((nI 1) = 0 ∨ (nI 1) = 1) ∧ (Q (some (vi (nI 1))) s4 ∧ s4.1 = σ.1))))))))))
  refine cp_v (m_lay d ms) rfl (fun h1 q1 e1 => ?_)
  have hq := hq h1 q1
  refine cal_i (m_isPage (d + 4) h1 a) e1 (brI (fun h => ?_) (fun h => ?_))
  · rw [h] at hq
    exact ⟨Or.inl rfl, hq, e1⟩
  · rw [h, Bool.true_and] at hq
    obtain ⟨p, hp, rfl⟩ := rngI_t (by omega) h
    rw [ix (by omega)] at hq ⊢
    have l1 := (q1.2.1.2 p hp).1.1
    have l100 := (ms.2.1 p hp).2
    rw [l1]
    refine ⟨inb hp (by omega), cal_i (m_inN (d + 5) h1 b (by omega)) e1 (brI (fun g => ?_) (fun g => ?_))⟩
    · rw [g] at hq
      exact ⟨Or.inl rfl, hq, e1⟩
    · rw [g] at hq
      exact ⟨Or.inr rfl, hq, e1⟩
theorem Fr_wr {S : Nat → Nat → Prop} {h : Hp} (f : Fr S σ h) {g b : Nat} {w : List Nat} (s : S g 0) : Fr S σ (wrT h g b w) := Fr.aI f s _
theorem e_heading (d : Nat) (cs : CS σ P X rs es) (hP : gP P) (hX : ∀ p, p < 12 → XFin P p (X p) ∧ (X p).2.2.1.length ≤ 100) (a b c : Int32) : PI (d + 3) 76 [vr 1 0, vi a, vi b, vi c] σ (headV X a b c) (fun h => Fr QF σ h) := by
  refine PI_of mt_76 (Nat.le_of_ble_eq_true rfl) fun Q hq => ?_
  have hq0 := hq σ (Fr.rfl' _ _)
  unfold headV at hq hq0
  refine wp_ok (cut := []) ma_76 rfl 27 _ _ _ _ ?_
  show CalI true (d + 2) 94 [vr 1 0, vi a, vi b] σ σ.1 (fun x2 s1 => ((¬ x2 = 0 → ((c < 0 → (Q (some (vi (-2))) s1 ∧ s1.1 = σ.1)) ∧ (¬ c < 0 → ((c ≤ (nI 12) → (vp_in a 12 ∧ (((c = nI 0 → (a.toNatClampNeg < 12 ∧ (a.toNatClampNeg < 12 ∧ (vp_in b 100 ∧ (Q (some (vi (hI s1 33 a.toNatClampNeg b.toNatClampNeg))) s1 ∧ s1.1 = σ.1))))) ∧ ((c = nI 1 → (a.toNatClampNeg < 12 ∧ (a.toNatClampNeg < 12 ∧ (vp_in b 100 ∧ (Q (some (vi (hI s1 34 a.toNatClampNeg b.toNatClampNeg))) s1 ∧ s1.1 = σ.1))))) ∧ ((c = nI 2 → (a.toNatClampNeg < 12 ∧ (a.toNatClampNeg < 12 ∧ (vp_in b 100 ∧ CalI true (d + 2) 5 [vl (hL s1 35 a.toNatClampNeg b.toNatClampNeg), vr 4 0, vi (nI 0)] s1 σ.1 (fun x4 s3 => (Q (some (vi x4)) s3 ∧ s3.1 = σ.1)))))) ∧ True))) ∧ ((c.toInt < 0 ∨ 2 < c.toInt) → (a.toNatClampNeg < 12 ∧ CalI true (d + 2) 14 [vr 32 a.toNatClampNeg, vi b, vi (c - (nI 2))] s1 σ.1 (fun x6 s5 => (Q (some (vi x6)) s5 ∧ s5.1 = σ.1))))))) ∧ (¬ c ≤ (nI 12) → (Q (some (vi (-2))) s1 ∧ s1.1 = σ.1)))))) ∧ (x2 = 0 → (Q (some (vi (-1))) s1 ∧ s1.1 = σ.1))))
  refine cal_i (e_isHeading (d + 1) cs a b) rfl (brN (fun h => ?_) (fun h => ?_))
  · rw [if_pos h] at hq hq0
    obtain ⟨p, j, y, hp, rfl, rfl, hy, hj⟩ := hdB_t (fun p hp => (hX p hp).2) h
    have hs := (cs.2.2.1 p hp).2.2.1
    have hyc := hs.2.2 j y hy
    have hdi := XFin_hd hP hp (hX p hp).1
    have hyi := hdi.2.2 j y hy
    rw [ix (by omega), ix (by omega), hy] at hq hq0
    rw [ix (by omega), ix (by omega)]
    have i1 : vp_in (nI p) 12 := inb hp (by omega)
    have i2 : vp_in (nI j) 100 := inb hj (by omega)
    refine ⟨fun g1 => ?_, fun g1 => ⟨fun g2 => ?_, fun g2 => ?_⟩⟩
    · rw [rng_lo g1] at hq0
      exact ⟨hq0, rfl⟩
    · have rb := rng_in (m := 12) (by omega) g1 g2
      rw [if_pos rb] at hq hq0
      refine ⟨i1, ⟨fun e => ⟨hp, hp, i2, ?_, rfl⟩, fun e => ⟨hp, hp, i2, ?_, rfl⟩, fun e => ⟨hp, hp, i2, ?_⟩, True.intro⟩, fun e => ⟨hp, ?_⟩⟩
      · rw [e, ix (by omega)] at hq0; rw [hyc.1]; exact hq0
      · rw [e, ix (by omega)] at hq0; rw [hyc.2.1]; exact hq0
      · rw [e, ix (by omega)] at hq
        rw [hyc.2.2.1]
        have sp := e_spell4 (d + 1) σ (o := some y.2.2.1) (fun x hx => by cases hx; exact hyc.2.2.2.2) (b := 0) (by have := (txAnc_le2 hyc.2.2.2.2).2; show 0 + (txAnc y.2.2.1).length ≤ 11; omega)
        exact cal_i sp rfl ⟨hq _ (Fr_wr (Fr.rfl' QF σ) (Or.inl rfl)), rfl⟩
      · obtain ⟨k, hk, rfl⟩ := rngI_t (by omega) rb
        rw [nI_toInt (by omega)] at e
        obtain ⟨i, rfl⟩ : ∃ i, k = i + 3 := ⟨k - 3, by omega⟩
        rw [ix (by omega)] at hq0
        have po := e_partOf (d + 2) (r := p) (j := j) (k := i + 1) hp hs (All_lt hy) (by omega) (fun x hx => by
          obtain ⟨i2, hi2, e2⟩ := List.getElem_of_mem hx
          have := (hdi.2.2 i2 x (by rw [← e2]; exact List.getElem?_eq_getElem hi2)).1
          omega)
        rw [subN (by omega), show i + 3 - 2 = i + 1 by omega]
        exact cal_i po rfl ⟨hq0, rfl⟩
    · rw [rng_hi (by omega) g2] at hq0
      exact ⟨hq0, rfl⟩
  · rw [if_neg (fun w => by rw [h] at w; cases w)] at hq0
    exact ⟨hq0, rfl⟩
theorem m_heading (d : Nat) (ms : MS σ P X rs es) (a b c : Int32) : PI (d + 7) 160 [vr 233 0, vi a, vi b, vi c] σ (headV X a b c) (fun h => MS h P X rs es ∧ FrM SQ σ h) := by
  refine PI_of mt_160 (Nat.le_of_ble_eq_true rfl) fun Q hq => ?_
  unfold headV at hq
  refine wp_ok (cut := []) ma_160 rfl 29 _ _ _ _ ?_
  show CalI true (d + 6) 159 [vr 233 0, vi a, vi b] σ σ.1 (fun x2 s1 => ((¬ x2 = 0 → CalI true (d + 6) 108 [vi c, vi (nI 0), vi (nI 12)] s1 σ.1 (fun x4 s3 => ((¬ x4 = 0 → (((c = nI 0 → (vp_in (((nI 100) * a) + b) 1200 ∧ (Q (some (vi (hI s3 242 0 ((((nI 100) * a) + b).toNatClampNeg)))) s3 ∧ s3.1 = σ.1))) ∧ ((c = nI 1 → (vp_in (((nI 100) * a) + b) 1200 ∧ (Q (some (vi (hI s3 243 0 ((((nI 100) * a) + b).toNatClampNeg)))) s3 ∧ s3.1 = σ.1))) ∧ ((c = nI 2 → CalI true (d + 6) 144 [vi a, vi b] s3 σ.1 (fun x6 s5 => (vp_in x6 20448 ∧ (Q (some (vi (hI s5 245 0 x6.toNatClampNeg))) s5 ∧ s5.1 = σ.1)))) ∧ True))) ∧ ((c.toInt < 0 ∨ 2 < c.toInt) → (vp_in ((((nI 10) * (((nI 100) * a) + b)) + c) - (nI 3)) 12000 ∧ (Q (some (vi (hI s3 244 0 (((((nI 10) * (((nI 100) * a) + b)) + c) - (nI 3)).toNatClampNeg)))) s3 ∧ s3.1 = σ.1))))) ∧ (x4 = 0 → (Q (some (vi (-2))) s3 ∧ s3.1 = σ.1))))) ∧ (x2 = 0 → (Q (some (vi (-1))) s1 ∧ s1.1 = σ.1))))
  refine cp_i (m_isHeading d ms a b) rfl (fun h1 q1 e1 => ?_)
  have hq := hq h1 ⟨q1.1, q1.2.2.mo fun f k w => Or.inl w⟩
  refine brN (fun h => ?_) (fun h => ?_)
  · rw [if_pos h] at hq
    obtain ⟨p, j, y, hp, rfl, rfl, hy, hj⟩ := hdB_t (fun p hp => (ms.2.1 p hp).2) h
    obtain ⟨y1, y2, y3, y4, y5, y6⟩ := (q1.2.1.2 p hp).1.2.1 j y hy
    rw [ix (by omega), ix (by omega), hy] at hq
    refine cal_i (m_inR (d + 6) h1 c (m := 12) (by omega)) e1 (brN (fun g => ?_) (fun g => ?_))
    · rw [if_pos g] at hq
      rw [mulN, addN, ix (by omega)]
      have i1 : vp_in (nI (100 * p + j)) 1200 := inb (by omega) (by omega)
      refine ⟨⟨fun e => ⟨i1, ?_, e1⟩, fun e => ⟨i1, ?_, e1⟩, fun e => cal_i (m_anchorAt (d + 6) h1 p j) e1 ⟨inb (by omega) (by omega), ?_, e1⟩, True.intro⟩, fun e => ?_⟩
      · rw [e, ix (by omega)] at hq; rw [y1]; exact hq
      · rw [e, ix (by omega)] at hq; rw [y2]; exact hq
      · rw [e, ix (by omega)] at hq; rw [ix (by omega), y3.1]; exact hq
      · obtain ⟨k, hk, rfl⟩ := rngI_t (by omega) g
        rw [nI_toInt (by omega)] at e
        obtain ⟨i, rfl⟩ : ∃ i, k = i + 3 := ⟨k - 3, by omega⟩
        rw [ix (by omega)] at hq
        have y6 := y6 i (by omega)
        have e0 : (if i + 1 ≤ y.1 then ctF ((X p).2.2.1.take (j + 1)) (i + 1) else 0) = ctF ((X p).2.2.1.take (j + 1)) (i + 1) := by
          by_cases w : i + 1 ≤ y.1
          · rw [if_pos w]
          · rw [if_neg w, take_s hy, ctF_c, if_neg w]
        rw [e0] at y6
        rw [mulN, addN, subN (by omega), show 10 * (100 * p + j) + (i + 3) - 3 = 10 * (100 * p + j) + i by omega, ix (by omega), y6]
        exact ⟨inb (by omega) (by omega), hq, e1⟩
    · rw [if_neg (fun w => by rw [g] at w; cases w)] at hq
      exact ⟨hq, e1⟩
  · rw [if_neg (fun w => by rw [h] at w; cases w)] at hq
    exact ⟨hq, e1⟩
end
