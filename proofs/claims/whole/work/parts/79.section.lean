/-! anchor, section: the class and the model -/
def scB (P : Nat → List Line) (a b : Int32) : Bool := rngI a 12 && rngI b (secs (P a.toNatClampNeg)).length
def scN (hs : List Hd) (j : Nat) (s : Nat × Nat) (c : Int32) : Int32 := if c = nI 0 then nI s.2 else if c = nI 1 then hoF (fun _ => (-6)) 0 hs j else if c = nI 2 then nI s.1 else (-2)
def scO (o : Option (Nat × Nat)) (f : Nat × Nat → Int32) : Int32 := match o with
  | none => 0
  | some y => f y
def secV (P : Nat → List Line) (X : Nat → XA) (a b c : Int32) : Int32 := if scB P a b then scO (secs (P a.toNatClampNeg))[b.toNatClampNeg]? (fun s => scN (X a.toNatClampNeg).2.2.1 b.toNatClampNeg s c) else (-1)
theorem scB_t {P : Nat → List Line} (hP : gP P) {a b : Int32} (h : scB P a b = true) : ∃ p j s, p < 12 ∧ a = nI p ∧ b = nI j ∧ (secs (P p))[j]? = some s ∧ j < 53 ∧ j < nHd (P p) := by
  unfold scB at h
  rw [Bool.and_eq_true] at h
  obtain ⟨p, hp, rfl⟩ := rngI_t (by omega) h.1
  rw [ix (by omega)] at h
  have b1 := nHd_b (hP p hp).1
  have b2 := (hP p hp).2
  have e : (secs (P p)).length = 0 + nHd (P p) := secs_len (P p) []
  obtain ⟨j, hj, rfl⟩ := rngI_t (by omega) h.2
  exact ⟨p, j, _, hp, rfl, rfl, List.getElem?_eq_getElem hj, by omega, by omega⟩
theorem scN_d {hs : List Hd} {j : Nat} {s : Nat × Nat} {c : Int32} (h : c.toInt < 0 ∨ 2 < c.toInt) : scN hs j s c = (-2) := by
  unfold scN
  rw [if_neg (fun e => by rw [e, nI_toInt (by omega)] at h; omega), if_neg (fun e => by rw [e, nI_toInt (by omega)] at h; omega), if_neg (fun e => by rw [e, nI_toInt (by omega)] at h; omega)]
section
variable {σ : Hp} {P : Nat → List Line} {X : Nat → XA} {rs : List (Pl × Pl)} {es : List En}
theorem e_anchor (d : Nat) (cs : CS σ P X rs es) (hX : ∀ p, p < 12 → XFin P p (X p) ∧ (X p).2.2.1.length ≤ 100) (a b c : Int32) : PI (d + 3) 77 [vr 1 0, vi a, vi b, vi c] σ (ancV X a b c) (fun h => Fr QF σ h) := by
  refine PI_of mt_77 (Nat.le_of_ble_eq_true rfl) fun Q hq => ?_
  unfold ancV at hq
  refine wp_ok (cut := []) ma_77 rfl 29 _ _ _ _ ?_
  show CalI true (d + 2) 94 [vr 1 0, vi a, vi b] σ σ.1 (fun x2 s1 => ((¬ x2 = 0 → (vp_in a 12 ∧ (a.toNatClampNeg < 12 ∧ (a.toNatClampNeg < 12 ∧ (vp_in b 100 ∧ CalI true (d + 2) 5 [vl (hL s1 35 a.toNatClampNeg b.toNatClampNeg), vr 4 0, vi (nI 0)] s1 σ.1 (fun x4 s3 => ((c < 0 → (Q (some (vi (-6))) s3 ∧ s3.1 = σ.1)) ∧ (¬ c < 0 → ((x4 ≤ c → (Q (some (vi (-6))) s3 ∧ s3.1 = σ.1)) ∧ (¬ x4 ≤ c → (vp_in c 11 ∧ (Q (some (vi (hI s3 4 0 c.toNatClampNeg))) s3 ∧ s3.1 = σ.1)))))))))))) ∧ (x2 = 0 → (Q (some (vi (-1))) s1 ∧ s1.1 = σ.1))))
  refine cal_i (e_isHeading (d + 1) cs a b) rfl (brN (fun h => ?_) (fun h => ?_))
  · rw [if_pos h] at hq
    obtain ⟨p, j, y, hp, rfl, rfl, hy, hj⟩ := hdB_t (fun p hp => (hX p hp).2) h
    have hyc := (cs.2.2.1 p hp).2.2.1.2.2 j y hy
    rw [ix (by omega), ix (by omega), hy] at hq
    rw [ix (by omega), ix (by omega), hyc.2.2.1]
    have l11 := (txAnc_le2 hyc.2.2.2.2).2
    have sp := e_spell4 (d + 1) σ (o := some y.2.2.1) (fun x hx => by cases hx; exact hyc.2.2.2.2) (b := 0) (by show 0 + (txAnc y.2.2.1).length ≤ 11; omega)
    have hq := hq _ (Fr_wr (b := 0) (w := txAnc y.2.2.1) (Fr.rfl' QF σ) (Or.inl rfl))
    have hq : Q (some (vi (if rngI c (txAnc y.2.2.1).length then nI ((txAnc y.2.2.1).getD c.toNatClampNeg 0) else (-6)))) (wrT σ 4 0 (txAnc y.2.2.1)) := hq
    refine ⟨inb hp (by omega), hp, hp, inb hj (by omega), cal_i sp rfl ?_⟩
    show (c < 0 → Q (some (vi (-6))) (wrT σ 4 0 (txAnc y.2.2.1)) ∧ _) ∧ (¬ c < 0 → (nI (txAnc y.2.2.1).length ≤ c → Q (some (vi (-6))) (wrT σ 4 0 (txAnc y.2.2.1)) ∧ _) ∧ (¬ nI (txAnc y.2.2.1).length ≤ c → _ ∧ Q (some (vi (hI (wrT σ 4 0 (txAnc y.2.2.1)) 4 0 c.toNatClampNeg))) (wrT σ 4 0 (txAnc y.2.2.1)) ∧ _))
    refine ⟨fun g => ?_, fun g => ⟨fun g2 => ?_, fun g2 => ?_⟩⟩
    · rw [rng_lo g] at hq
      exact ⟨hq, rfl⟩
    · rw [if_neg (fun w => Int32.not_lt.mpr g2 (of_decide_eq_true w).2)] at hq
      exact ⟨hq, rfl⟩
    · have w : rngI c (txAnc y.2.2.1).length = true := decide_eq_true ⟨not_ltI g, Int32.not_le.mp g2⟩
      rw [if_pos w] at hq
      obtain ⟨i, hi, rfl⟩ := rngI_t (by omega) w
      rw [ix (by omega)] at hq ⊢
      refine ⟨inb (by omega) (by omega), ?_, rfl⟩
      have e : hI (wrT σ 4 0 (txAnc y.2.2.1)) 4 0 i = nI ((txAnc y.2.2.1).getD i 0) := by
        unfold wrT
        rw [hI_a]
        show (if 0 ≤ i ∧ i < 0 + (txAnc y.2.2.1).length then _ else _) = _
        rw [if_pos (by omega), Nat.sub_zero]
      rw [e]
      exact hq
  · rw [if_neg (fun w => by rw [h] at w; cases w)] at hq
    exact ⟨hq σ (Fr.rfl' _ _), rfl⟩
theorem m_anchor (d : Nat) (ms : MS σ P X rs es) (a b c : Int32) : PI (d + 7) 161 [vr 233 0, vi a, vi b, vi c] σ (ancV X a b c) (fun h => MS h P X rs es ∧ FrM SQ σ h) := by
  refine PI_of mt_161 (Nat.le_of_ble_eq_true rfl) fun Q hq => ?_
  unfold ancV at hq
  refine wp_ok (cut := []) ma_161 rfl 29 _ _ _ _ ?_
  show CalI true (d + 6) 159 [vr 233 0, vi a, vi b] σ σ.1 (fun x2 s1 => ((¬ x2 = 0 → CalI true (d + 6) 144 [vi a, vi b] s1 σ.1 (fun x4 s3 => (vp_in x4 20448 ∧ CalI true (d + 6) 108 [vi c, vi (nI 0), vi ((hI s3 245 0 x4.toNatClampNeg) - (nI 1))] s3 σ.1 (fun x6 s5 => ((x6 = 0 → (Q (some (vi (-6))) s5 ∧ s5.1 = σ.1)) ∧ (¬ x6 = 0 → (vp_in ((x4 + (nI 1)) + c) 20448 ∧ (Q (some (vi (hI s5 245 0 (((x4 + (nI 1)) + c).toNatClampNeg)))) s5 ∧ s5.1 = σ.1)))))))) ∧ (x2 = 0 → (Q (some (vi (-1))) s1 ∧ s1.1 = σ.1))))
  refine cp_i (m_isHeading d ms a b) rfl (fun h1 q1 e1 => ?_)
  have hq := hq h1 ⟨q1.1, q1.2.2.mo fun f k w => Or.inl w⟩
  refine brN (fun h => ?_) (fun h => ?_)
  · rw [if_pos h] at hq
    obtain ⟨p, j, y, hp, rfl, rfl, hy, hj⟩ := hdB_t (fun p hp => (ms.2.1 p hp).2) h
    obtain ⟨y1, y2, y3, y4, y5, y6⟩ := (q1.2.1.2 p hp).1.2.1 j y hy
    rw [ix (by omega), ix (by omega), hy] at hq
    have l11 := (txAnc_le2 y5).2
    have hq : Q (some (vi (if rngI c (txAnc y.2.2.1).length then nI ((txAnc y.2.2.1).getD c.toNatClampNeg 0) else (-6)))) h1 := hq
    refine cal_i (m_anchorAt (d + 6) h1 p j) e1 ?_
    rw [ix (by omega), y3.1]
    refine ⟨inb (by omega) (by omega), cal_i (m_inN (d + 6) h1 c (by omega)) e1 (brI (fun g => ?_) (fun g => ?_))⟩
    · rw [if_neg (fun w => by rw [g] at w; cases w)] at hq
      exact ⟨hq, e1⟩
    · rw [if_pos g] at hq
      obtain ⟨i, hi, rfl⟩ := rngI_t (by omega) g
      rw [ix (by omega)] at hq
      rw [addN, addN, ix (by omega), y3.2 i (by omega)]
      exact ⟨inb (by omega) (by omega), hq, e1⟩
  · rw [if_neg (fun w => by rw [h] at w; cases w)] at hq
    exact ⟨hq, e1⟩
theorem e_section (d : Nat) (cs : CS σ P X rs es) (hP : gP P) (a b c : Int32) : EI (d + 1) 78 [vr 1 0, vi a, vi b, vi c] σ (secV P X a b c) σ := by
  refine EI_of mt_78 (Nat.le_of_ble_eq_true rfl) fun Q hq => ?_
  unfold secV at hq
  cases hB : scB P a b with
  | true =>
    rw [hB, if_pos rfl] at hq
    obtain ⟨p, j, s, hp, rfl, rfl, hs, hj, hjn⟩ := scB_t hP hB
    rw [ix (by omega), ix (by omega), hs] at hq
    have hq : Q (some (vi (scN (X p).2.2.1 j s c))) σ := hq
    have oc := (cs.2.1 p hp).1
    have sc := oc.2.2.2.2.2.2 j s hs
    have ho := (cs.2.2.1 p hp).2.2.2.1 j hjn
    have o13 := oc.2.2.2.2.2.1
    have e : (secs (P p)).length = 0 + nHd (P p) := secs_len (P p) []
    have i1 : vp_in (nI p) 12 := inb hp (by omega)
    have i2 : vp_in (nI j) 53 := inb hj (by omega)
    have rp : rngI (nI p) 12 = true := rngI_n hp (by omega)
    refine wp_ok (cut := []) ma_78 rfl 24 _ _ _ _ ?_
    show CalI true d 93 [vi (nI p)] σ σ.1 (fun x2 s1 => ((x2 = 0 → (Q (some (vi (-1))) s1 ∧ s1.1 = σ.1)) ∧ (¬ x2 = 0 → (((nI j) < 0 → (Q (some (vi (-1))) s1 ∧ s1.1 = σ.1)) ∧ (¬ (nI j) < 0 → (vp_in (nI p) 12 ∧ ((nI p).toNatClampNeg < 12 ∧ (((nI j) < (hI s1 21 ((nI p).toNatClampNeg) 13) → (((c = nI 0 → (vp_in (nI p) 12 ∧ ((nI p).toNatClampNeg < 12 ∧ ((nI p).toNatClampNeg < 12 ∧ (vp_in (nI j) 53 ∧ (Q (some (vi (hI s1 31 ((nI p).toNatClampNeg) ((nI j).toNatClampNeg)))) s1 ∧ s1.1 = σ.1)))))) ∧ ((c = nI 1 → (vp_in (nI p) 12 ∧ ((nI p).toNatClampNeg < 12 ∧ ((nI p).toNatClampNeg < 12 ∧ (vp_in (nI j) 53 ∧ (Q (some (vi (hI s1 37 ((nI p).toNatClampNeg) ((nI j).toNatClampNeg)))) s1 ∧ s1.1 = σ.1)))))) ∧ ((c = nI 2 → (vp_in (nI p) 12 ∧ ((nI p).toNatClampNeg < 12 ∧ ((nI p).toNatClampNeg < 12 ∧ (vp_in (nI j) 53 ∧ (Q (some (vi (hI s1 30 ((nI p).toNatClampNeg) ((nI j).toNatClampNeg)))) s1 ∧ s1.1 = σ.1)))))) ∧ True))) ∧ ((c.toInt < 0 ∨ 2 < c.toInt) → (Q (some (vi (-2))) s1 ∧ s1.1 = σ.1)))) ∧ (¬ (nI j) < (hI s1 21 ((nI p).toNatClampNeg) 13) → (Q (some (vi (-1))) s1 ∧ s1.1 = σ.1))))))))))
    refine cal_i (e_isPage _ σ (nI p)) rfl ?_
    rw [rp]
    refine b_t (br_lt (b := 0) (by omega) (by omega) (fun g => by omega) (fun _ => ?_))
    rw [ix (by omega), ix (by omega), o13]
    refine ⟨i1, hp, br_lt (by omega) (by have := nHd_b (hP p hp).1; have := (hP p hp).2; omega) (fun _ => ⟨⟨fun g => ⟨i1, hp, hp, i2, ?_, rfl⟩, fun g => ⟨i1, hp, hp, i2, ?_, rfl⟩, fun g => ⟨i1, hp, hp, i2, ?_, rfl⟩, True.intro⟩, fun g => ⟨?_, rfl⟩⟩) (fun g => by omega)⟩
    · rw [sc.2]
      rw [g] at hq
      exact hq
    · rw [ho]
      rw [g] at hq
      exact hq
    · rw [sc.1]
      rw [g] at hq
      exact hq
    · rw [scN_d g] at hq
      exact hq
  | false =>
    rw [hB, if_neg Bool.false_ne_true] at hq
    unfold scB at hB
    refine wp_ok (cut := []) ma_78 rfl 24 _ _ _ _ ?_
    show CalI true d 93 [vi a] σ σ.1 (fun x2 s1 => ((x2 = 0 → (Q (some (vi (-1))) s1 ∧ s1.1 = σ.1)) ∧ (¬ x2 = 0 → ((b < 0 → (Q (some (vi (-1))) s1 ∧ s1.1 = σ.1)) ∧ (¬ b < 0 → (vp_in a 12 ∧ (a.toNatClampNeg < 12 ∧ ((b < (hI s1 21 a.toNatClampNeg 13) → (((c = nI 0 → (vp_in a 12 ∧ (a.toNatClampNeg < 12 ∧ (a.toNatClampNeg < 12 ∧ (vp_in b 53 ∧ (Q (some (vi (hI s1 31 a.toNatClampNeg b.toNatClampNeg))) s1 ∧ s1.1 = σ.1)))))) ∧ ((c = nI 1 → (vp_in a 12 ∧ (a.toNatClampNeg < 12 ∧ (a.toNatClampNeg < 12 ∧ (vp_in b 53 ∧ (Q (some (vi (hI s1 37 a.toNatClampNeg b.toNatClampNeg))) s1 ∧ s1.1 = σ.1)))))) ∧ ((c = nI 2 → (vp_in a 12 ∧ (a.toNatClampNeg < 12 ∧ (a.toNatClampNeg < 12 ∧ (vp_in b 53 ∧ (Q (some (vi (hI s1 30 a.toNatClampNeg b.toNatClampNeg))) s1 ∧ s1.1 = σ.1)))))) ∧ True))) ∧ ((c.toInt < 0 ∨ 2 < c.toInt) → (Q (some (vi (-2))) s1 ∧ s1.1 = σ.1)))) ∧ (¬ b < (hI s1 21 a.toNatClampNeg 13) → (Q (some (vi (-1))) s1 ∧ s1.1 = σ.1))))))))))
    refine cal_i (e_isPage _ σ a) rfl (brI (fun h => ⟨hq, rfl⟩) (fun h => ⟨fun g => ⟨hq, rfl⟩, fun g => ?_⟩))
    rw [h, Bool.true_and] at hB
    obtain ⟨p, hp, rfl⟩ := rngI_t (by omega) h
    rw [ix (by omega)] at hB ⊢
    rw [(cs.2.1 p hp).1.2.2.2.2.2.1]
    refine ⟨inb hp (by omega), hp, fun g2 => ?_, fun _ => ⟨hq, rfl⟩⟩
    exact absurd (⟨not_ltI g, g2⟩ : 0 ≤ b ∧ b < nI (secs (P p)).length) (of_decide_eq_false hB)
set_option maxRecDepth 6000 in
theorem m_section (d : Nat) (ms : MS σ P X rs es) (a b c : Int32) : PI (d + 6) 162 [vr 233 0, vi a, vi b, vi c] σ (secV P X a b c) (fun h => MS h P X rs es ∧ FrM SQ σ h) := by
  refine PI_of mt_162 (Nat.le_of_ble_eq_true rfl) fun Q hq => ?_
  unfold secV at hq
  refine wp_ok (cut := []) ma_162 rfl 28 _ _ _ _ ?_
  show CalV true (d + 5) 157 [vr 233 0] σ σ.1 (fun s1 => CalI true (d + 5) 109 [vi a] s1 σ.1 (fun x3 s2 => ((x3 = 0 → (Q (some (vi (-1))) s2 ∧ s2.1 = σ.1)) ∧ (¬ x3 = 0 → (vp_in a 12 ∧ CalI true (d + 5) 108 [vi b, vi (nI 0), vi ((hI s2 247 0 a.toNatClampNeg) - (nI 1))] s2 σ.1 (fun x5 s4 => ((¬ x5 = 0 → (((c = nI 0 → (vp_in (((nI 54) * a) + b) 648 ∧ (Q (some (vi (hI s4 248 0 ((((nI 54) * a) + b).toNatClampNeg)))) s4 ∧ s4.1 = σ.1))) ∧ ((c = nI 1 → (vp_in (((nI 54) * a) + b) 648 ∧ (Q (some (vi (hI s4 249 0 ((((nI 54) * a) + b).toNatClampNeg)))) s4 ∧ s4.1 = σ.1))) ∧ ((c = nI 2 → (vp_in (((nI 54) * a) + b) 648 ∧ (Q (some (vi (hI s4 250 0 ((((nI 54) * a) + b).toNatClampNeg)))) s4 ∧ s4.1 = σ.1))) ∧ True))) ∧ ((c.toInt < 0 ∨ 2 < c.toInt) → (Q (some (vi (-2))) s4 ∧ s4.1 = σ.1)))) ∧ (x5 = 0 → (Q (some (vi (-1))) s4 ∧ s4.1 = σ.1)))))))))
  refine cp_v (m_lay d ms) rfl (fun h1 q1 e1 => ?_)
  have hq := hq h1 ⟨q1.1, q1.2.2.mo fun f k w => Or.inl w⟩
  refine cal_i (m_isPage (d + 4) h1 a) e1 (brI (fun h => ?_) (fun h => ?_))
  · have hB : scB P a b = false := by unfold scB; rw [h]; rfl
    rw [hB, if_neg Bool.false_ne_true] at hq
    exact ⟨hq, e1⟩
  · obtain ⟨p, hp, rfl⟩ := rngI_t (by omega) h
    have lp := (q1.2.1.2 p hp).1
    have b54 := (bds ms.1 hp).1
    rw [ix (by omega), lp.2.2.1]
    refine ⟨inb hp (by omega), cal_i (m_inN (d + 5) h1 b (by omega)) e1 (brN (fun g => ?_) (fun g => ?_))⟩
    · have hB : scB P (nI p) b = true := by unfold scB; rw [h, ix (by omega), g]; rfl
      rw [hB, if_pos rfl] at hq
      obtain ⟨j, hj, rfl⟩ := rngI_t (by omega) g
      have hs : (secs (P p))[j]? = some (secs (P p))[j] := List.getElem?_eq_getElem hj
      rw [ix (by omega), ix (by omega), hs] at hq
      have hq : Q (some (vi (scN (X p).2.2.1 j (secs (P p))[j] c))) h1 := hq
      have sx := lp.2.2.2.1 j _ hs
      rw [mulN, addN, ix (by omega)]
      have i1 : vp_in (nI (54 * p + j)) 648 := inb (by omega) (by omega)
      refine ⟨⟨fun g => ⟨i1, ?_, e1⟩, fun g => ⟨i1, ?_, e1⟩, fun g => ⟨i1, ?_, e1⟩, True.intro⟩, fun g => ⟨?_, e1⟩⟩
      · rw [sx.2.1]
        rw [g] at hq
        exact hq
      · rw [sx.2.2]
        rw [g] at hq
        exact hq
      · rw [sx.1]
        rw [g] at hq
        exact hq
      · rw [scN_d g] at hq
        exact hq
    · have hB : scB P (nI p) b = false := by unfold scB; rw [h, ix (by omega), g]; rfl
      rw [hB, if_neg Bool.false_ne_true] at hq
      exact ⟨hq, e1⟩
end
