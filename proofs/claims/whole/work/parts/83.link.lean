/-! isLink, link, isBroken: the class and the model -/
def lkB (P : Nat → List Line) (a b : Int32) : Bool := rngI a 12 && rngI b (lkPg a.toNatClampNeg 0 (P a.toNatClampNeg)).length
def lkN (P : Nat → List Line) (X : Nat → XA) (rs : List (Pl × Pl)) (k : Lk) : Nat → Int32
  | 0 => nI (rtRun P X rs (k.1, k.2.1)).1
  | 1 => nI k.1
  | 2 => bI (decide (k.2.1 ≠ none))
  | 3 => nI (rtRun P X rs (k.1, k.2.1)).2.2.2.length
  | 4 => nI (rtRun P X rs (k.1, k.2.1)).2.1.1
  | _ => (rtRun P X rs (k.1, k.2.1)).2.2.1
def lkO (o : Option Lk) (f : Lk → Int32) : Int32 := match o with
  | none => 0
  | some y => f y
def linkV (P : Nat → List Line) (X : Nat → XA) (rs : List (Pl × Pl)) (a b c : Int32) : Int32 := if lkB P a b then (if rngI c 6 then lkO (lkPg a.toNatClampNeg 0 (P a.toNatClampNeg))[b.toNatClampNeg]? (fun k => lkN P X rs k c.toNatClampNeg) else (-2)) else (-1)
theorem lkB_t {P : Nat → List Line} (hP : gP P) {a b : Int32} (h : lkB P a b = true) : ∃ p j k, p < 12 ∧ a = nI p ∧ b = nI j ∧ (lkPg p 0 (P p))[j]? = some k ∧ j < 40 := by
  unfold lkB at h
  rw [Bool.and_eq_true] at h
  obtain ⟨p, hp, rfl⟩ := rngI_t (by omega) h.1
  rw [ix (by omega)] at h
  have b2 := lkPg_b p 0 (hP p hp).1
  have b3 := (hP p hp).2
  obtain ⟨j, hj, rfl⟩ := rngI_t (by omega) h.2
  exact ⟨p, j, _, hp, rfl, rfl, List.getElem?_eq_getElem hj, by omega⟩
theorem rtGo_k (P : Nat → List Line) (X : Nat → XA) (rs : List (Pl × Pl)) : ∀ (f : Nat) (seen : List Pl) (us : List Nat) (x : Pl), (rtGo P X rs f seen us x).1 ≤ 4 := by
  intro f
  induction f with
  | zero => intro seen us x; exact Nat.le_of_ble_eq_true rfl
  | succ f ih =>
    intro seen us x
    unfold rtGo
    split
    · exact Nat.le_of_ble_eq_true rfl
    · split
      · show (if seen = [] then 0 else 1) ≤ 4
        split <;> omega
      · cases rtNext P rs x with
        | none =>
          show (if P x.1 = [] then 3 else 4) ≤ 4
          split <;> omega
        | some r => exact ih _ _ _
theorem rtRun_k (P : Nat → List Line) (X : Nat → XA) (rs : List (Pl × Pl)) (x : Pl) : (rtRun P X rs x).1 ≤ 4 := rtGo_k P X rs 169 [] [] x
section
variable {σ : Hp} {P : Nat → List Line} {X : Nat → XA} {rs : List (Pl × Pl)} {es : List En}
theorem lkC (cs : CS σ P X rs es) (hP : gP P) {p j : Nat} {k : Lk} (hp : p < 12) (hk : (lkPg p 0 (P p))[j]? = some k) : hI σ 26 p j = nI k.1 ∧ hL σ 27 p j = lN (anO k.2.1) ∧ hI σ 28 p j = nI (160 * p + k.2.2.1) ∧ hI σ 29 p j = nI (160 * p + k.2.2.2) ∧ j < 40 ∧ gPl (k.1, k.2.1) := by
  have b2 := lkPg_b p 0 (hP p hp).1
  have b3 := (hP p hp).2
  have hj := All_lt hk
  have := (cs.2.1 p hp).2.2 j (k.1, k.2.1, 160 * p + k.2.2.1, 160 * p + k.2.2.2) (by rw [lk_160, List.getElem?_map, hk]; rfl)
  exact ⟨this.1, this.2.1, this.2.2.1, this.2.2.2, by omega, lkPg_g hp (P p) 0 (hP p hp).1 k (List.mem_of_getElem? hk)⟩
theorem e_way (d : Nat) (cs : CS σ P X rs es) (hP : gP P) {p j : Nat} {k : Lk} (hp : p < 12) (hk : (lkPg p 0 (P p))[j]? = some k) : PV (d + 2) 43 [vr 225 0, vr 21 p, vi (nI j)] σ (fun h => RtC h (rtRun P X rs (k.1, k.2.1)) ∧ Fr RF σ h) := by
  obtain ⟨l1, l2, _, _, l5, l6⟩ := lkC cs hP hp hk
  exact e_follow d cs.1 (fun q hq => (cs.2.2.1 q hq).2.2.1) cs.2.2.2.1 hp l5 l1 l2 l6
theorem RF_QF {h : Hp} (f : Fr RF σ h) : Fr QF σ h := f.mo fun g _ w => Or.inr ⟨w.1, by have := w.2; omega⟩
theorem CS_q {h : Hp} (f : Fr QF σ h) (cs : CS σ P X rs es) : CS h P X rs es := CS_fr f (fun g i a b _ w => by
  rcases w with w | w
  · omega
  · have := w.1; omega) cs
theorem e_isLink (d : Nat) (cs : CS σ P X rs es) (a b : Int32) : EI (d + 1) 95 [vr 1 0, vi a, vi b] σ (bI (lkB P a b)) σ := by
  refine EI_of mt_95 (Nat.le_of_ble_eq_true rfl) fun Q hq => ?_
  unfold lkB at hq
  refine wp_ok (cut := []) ma_95 rfl 16 _ _ _ _ ?_
  show CalI true d 93 [vi a] σ σ.1 (fun x2 s1 => ((x2 = 0 → (((nI 0) = 0 ∨ (nI 0) = 1) ∧ (Q (some (vi (nI 0))) s1 ∧ s1.1 = σ.1))) ∧ (¬ x2 = 0 → ((b < 0 → (((nI 0) = 0 ∨ (nI 0) = 1) ∧ (Q (some (vi (nI 0))) s1 ∧ s1.1 = σ.1))) ∧ (¬ b < 0 → (vp_in a 12 ∧ (a.toNatClampNeg < 12 ∧ (((hI s1 21 a.toNatClampNeg 8) ≤ b → (((nI 0) = 0 ∨ (nI 0) = 1) ∧ (Q (some (vi (nI 0))) s1 ∧ s1.1 = σ.1))) ∧ (¬ (hI s1 21 a.toNatClampNeg 8) ≤ b → (((nI 1) = 0 ∨ (nI 1) = 1) ∧ (Q (some (vi (nI 1))) s1 ∧ s1.1 = σ.1)))))))))))
  refine cal_i (e_isPage d σ a) rfl (brI (fun h => ?_) (fun h => ?_))
  · rw [h] at hq
    exact ⟨Or.inl rfl, hq, rfl⟩
  · rw [h, Bool.true_and] at hq
    obtain ⟨p, hp, rfl⟩ := rngI_t (by omega) h
    rw [ix (by omega)] at hq ⊢
    have hs := (cs.2.1 p hp).2.1
    rw [lk_len] at hs
    rw [hs]
    unfold rngI at hq
    refine ⟨fun g => ?_, fun g => ⟨inb hp (by omega), hp, fun g2 => ?_, fun g2 => ?_⟩⟩
    · rw [decide_eq_false (fun w => Int32.not_lt.mpr w.1 g)] at hq
      exact ⟨Or.inl rfl, hq, rfl⟩
    · rw [decide_eq_false (fun w => Int32.not_lt.mpr g2 w.2)] at hq
      exact ⟨Or.inl rfl, hq, rfl⟩
    · rw [decide_eq_true ⟨not_ltI g, Int32.not_le.mp g2⟩] at hq
      exact ⟨Or.inr rfl, hq, rfl⟩
theorem m_isLink (d : Nat) (ms : MS σ P X rs es) (a b : Int32) : PI (d + 6) 178 [vr 233 0, vi a, vi b] σ (bI (lkB P a b)) (fun h => MS h P X rs es ∧ LdX h P X ∧ FrM SLay σ h) := by
  refine PI_of mt_178 (Nat.le_of_ble_eq_true rfl) fun Q hq => ?_
  unfold lkB at hq
  refine wp_ok (cut := []) ma_178 rfl 18 _ _ _ _ ?_
  show CalV true (d + 5) 157 [vr 233 0] σ σ.1 (fun s1 => CalI true (d + 5) 109 [vi a] s1 σ.1 (fun x3 s2 => ((x3 = 0 → (((nI 0) = 0 ∨ (nI 0) = 1) ∧ (Q (some (vi (nI 0))) s2 ∧ s2.1 = σ.1))) ∧ (¬ x3 = 0 → (vp_in a 12 ∧ CalI true (d + 5) 108 [vi b, vi (nI 0), vi ((hI s2 253 0 a.toNatClampNeg) - (nI 1))] s2 σ.1 (fun x5 s4 => ((x5 = 0 → (((nI 0) = 0 ∨ (nI 0) = 1) ∧ (Q (some (vi (nI 0))) s4 ∧ s4.1 = σ.1))) ∧ (¬ x5 = 0 → (((nI 1) = 0 ∨ (nI 1) = 1) ∧ (Q (some (vi (nI 1))) s4 ∧ s4.1 = σ.1))))))))))
  refine cp_v (m_lay d ms) rfl (fun h1 q1 e1 => ?_)
  have hq := hq h1 q1
  refine cal_i (m_isPage (d + 4) h1 a) e1 (brI (fun h => ?_) (fun h => ?_))
  · rw [h] at hq
    exact ⟨Or.inl rfl, hq, e1⟩
  · rw [h, Bool.true_and] at hq
    obtain ⟨p, hp, rfl⟩ := rngI_t (by omega) h
    rw [ix (by omega)] at hq ⊢
    have l1 := (q1.2.1.2 p hp).1.2.2.2.2.2.1
    have l42 := (bds ms.1 hp).2
    rw [l1]
    refine ⟨inb hp (by omega), cal_i (m_inN (d + 5) h1 b (by omega)) e1 (brI (fun g => ?_) (fun g => ?_))⟩
    · rw [g] at hq
      exact ⟨Or.inl rfl, hq, e1⟩
    · rw [g] at hq
      exact ⟨Or.inr rfl, hq, e1⟩
set_option maxRecDepth 6000 in
theorem e_link (d : Nat) (cs : CS σ P X rs es) (hP : gP P) (a b c : Int32) : PI (d + 3) 83 [vr 1 0, vi a, vi b, vi c] σ (linkV P X rs a b c) (fun h => Fr QF σ h) := by
  refine PI_of mt_83 (Nat.le_of_ble_eq_true rfl) fun Q hq => ?_
  unfold linkV at hq
  refine wp_ok (cut := []) ma_83 rfl 33 _ _ _ _ ?_
  show CalI true (d + 2) 95 [vr 1 0, vi a, vi b] σ σ.1 (fun x2 s1 => ((¬ x2 = 0 → ((c < 0 → (Q (some (vi (-2))) s1 ∧ s1.1 = σ.1)) ∧ (¬ c < 0 → ((c ≤ (nI 5) → (vp_in a 12 ∧ CalV true (d + 2) 43 [vr 225 0, vr 21 a.toNatClampNeg, vi b] s1 σ.1 (fun s3 => (((c = nI 0 → (Q (some (vi (hI s3 225 0 1))) s3 ∧ s3.1 = σ.1)) ∧ ((c = nI 1 → (a.toNatClampNeg < 12 ∧ (a.toNatClampNeg < 12 ∧ (vp_in b 40 ∧ (Q (some (vi (hI s3 26 a.toNatClampNeg b.toNatClampNeg))) s3 ∧ s3.1 = σ.1))))) ∧ ((c = nI 2 → (a.toNatClampNeg < 12 ∧ (a.toNatClampNeg < 12 ∧ (vp_in b 40 ∧ ((¬ (lg_cmp (hL s3 27 a.toNatClampNeg b.toNatClampNeg) (lN 0)) = 0 → (Q (some (vi (nI 1))) s3 ∧ s3.1 = σ.1)) ∧ ((lg_cmp (hL s3 27 a.toNatClampNeg b.toNatClampNeg) (lN 0)) = 0 → (Q (some (vi (nI 0))) s3 ∧ s3.1 = σ.1))))))) ∧ ((c = nI 3 → (Q (some (vi (hI s3 225 0 5))) s3 ∧ s3.1 = σ.1)) ∧ ((c = nI 4 → (Q (some (vi (hI s3 225 0 2))) s3 ∧ s3.1 = σ.1)) ∧ True))))) ∧ ((c.toInt < 0 ∨ 4 < c.toInt) → (Q (some (vi (hI s3 225 0 4))) s3 ∧ s3.1 = σ.1)))))) ∧ (¬ c ≤ (nI 5) → (Q (some (vi (-2))) s1 ∧ s1.1 = σ.1)))))) ∧ (x2 = 0 → (Q (some (vi (-1))) s1 ∧ s1.1 = σ.1))))
  refine cal_i (e_isLink (d + 1) cs a b) rfl (brN (fun h => ?_) (fun h => ?_))
  · rw [if_pos h] at hq
    obtain ⟨p, j, k, hp, rfl, rfl, hk, hj⟩ := lkB_t hP h
    rw [ix (by omega), ix (by omega), hk] at hq
    rw [ix (by omega), ix (by omega)]
    refine ⟨fun g1 => ?_, fun g1 => ⟨fun g2 => ⟨inb hp (by omega), cp_v (e_way d cs hP hp hk) rfl (fun h1 q1 e1 => ?_)⟩, fun g2 => ?_⟩⟩
    · rw [rng_lo g1] at hq
      exact ⟨hq σ (Fr.rfl' _ _), rfl⟩
    · have rb := rng_in (m := 5) (by omega) g1 g2
      rw [if_pos rb] at hq
      have hq := hq h1 (RF_QF q1.2)
      have hq : Q (some (vi (lkN P X rs k c.toNatClampNeg))) h1 := hq
      obtain ⟨r1, r2, r3, r4, r5, r6, r7, r8⟩ := q1.1
      obtain ⟨l1, l2, _, _, l5, l6⟩ := lkC (CS_q (RF_QF q1.2) cs) hP hp hk
      have i2 : vp_in (nI j) 40 := inb hj (by omega)
      refine ⟨⟨fun e => ⟨?_, e1⟩, fun e => ⟨hp, hp, i2, ?_, e1⟩, fun e => ⟨hp, hp, i2, ?_⟩, fun e => ⟨?_, e1⟩, fun e => ⟨?_, e1⟩, True.intro⟩, fun e => ⟨?_, e1⟩⟩
      · rw [e, ix (by omega)] at hq; rw [r1]; exact hq
      · rw [e, ix (by omega)] at hq; rw [l1]; exact hq
      · rw [e, ix (by omega)] at hq
        rw [l2, lg_cmp_eq, lO_0 l6.2]
        have hq : Q (some (vi (bI (decide (k.2.1 ≠ none))))) h1 := hq
        refine ⟨fun w => ?_, fun w => ?_⟩
        · rw [decide_eq_true w] at hq
          exact ⟨hq, e1⟩
        · rw [decide_eq_false (fun z => z w)] at hq
          exact ⟨hq, e1⟩
      · rw [e, ix (by omega)] at hq; rw [r5]; exact hq
      · rw [e, ix (by omega)] at hq; rw [r2]; exact hq
      · obtain ⟨i, hi, rfl⟩ := rngI_t (by omega) rb
        rw [nI_toInt (by omega)] at e
        have h5 : i = 5 := by omega
        rw [h5, ix (by omega)] at hq
        rw [r4]
        exact hq
    · rw [rng_hi (by omega) g2] at hq
      exact ⟨hq σ (Fr.rfl' _ _), rfl⟩
  · rw [if_neg (fun w => by rw [h] at w; cases w)] at hq
    exact ⟨hq σ (Fr.rfl' _ _), rfl⟩
set_option maxRecDepth 6000 in
theorem m_link (d : Nat) (ms : MS σ P X rs es) (a b c : Int32) : PI (d + 9) 179 [vr 233 0, vi a, vi b, vi c] σ (linkV P X rs a b c) (fun h => MS h P X rs es ∧ FrM SQ σ h) := by
  refine PI_of mt_179 (Nat.le_of_ble_eq_true rfl) fun Q hq => ?_
  unfold linkV at hq
  refine wp_ok (cut := []) ma_179 rfl 24 _ _ _ _ ?_
  show CalI true (d + 8) 178 [vr 233 0, vi a, vi b] σ σ.1 (fun x2 s1 => ((¬ x2 = 0 → CalI true (d + 8) 108 [vi c, vi (nI 0), vi (nI 5)] s1 σ.1 (fun x4 s3 => ((¬ x4 = 0 → CalV true (d + 8) 177 [vr 233 0, vi a, vi b] s3 σ.1 (fun s5 => (((c = nI 0 → (Q (some (vi (hI s5 233 0 36))) s5 ∧ s5.1 = σ.1)) ∧ ((c = nI 1 → (vp_in (nI 0) 5600 ∧ (Q (some (vi (hI s5 261 0 0))) s5 ∧ s5.1 = σ.1))) ∧ ((c = nI 2 → (vp_in (nI 1) 5600 ∧ (Q (some (vi (hI s5 261 0 1))) s5 ∧ s5.1 = σ.1))) ∧ ((c = nI 3 → (Q (some (vi (hI s5 233 0 35))) s5 ∧ s5.1 = σ.1)) ∧ ((c = nI 4 → (vp_in ((nI 14) * (hI s5 233 0 35)) 5600 ∧ (Q (some (vi (hI s5 261 0 (((nI 14) * (hI s5 233 0 35)).toNatClampNeg)))) s5 ∧ s5.1 = σ.1))) ∧ True))))) ∧ ((c.toInt < 0 ∨ 4 < c.toInt) → (Q (some (vi (hI s5 233 0 37))) s5 ∧ s5.1 = σ.1))))) ∧ (x4 = 0 → (Q (some (vi (-2))) s3 ∧ s3.1 = σ.1))))) ∧ (x2 = 0 → (Q (some (vi (-1))) s1 ∧ s1.1 = σ.1))))
  refine cp_i (m_isLink (d + 2) ms a b) rfl (fun h1 q1 e1 => ?_)
  have hq0 := hq h1 ⟨q1.1, q1.2.2.mo fun f k w => Or.inl w⟩
  refine brN (fun h => ?_) (fun h => ?_)
  · rw [if_pos h] at hq hq0
    obtain ⟨p, j, k, hp, rfl, rfl, hk, hj⟩ := lkB_t ms.1 h
    rw [ix (by omega), ix (by omega), hk] at hq hq0
    refine cal_i (m_inR (d + 8) h1 c (m := 5) (by omega)) e1 (brN (fun g => ?_) (fun g => ?_))
    · rw [if_pos g] at hq
      refine cp_v (m_resolve d q1.1 hp hk) e1 (fun h2 q2 e2 => ?_)
      have hq := hq h2 ⟨q2.1, (q1.2.2.mo fun f k w => Or.inl w).tr q2.2.2.2⟩
      have hq : Q (some (vi (lkN P X rs k c.toNatClampNeg))) h2 := hq
      obtain ⟨r1, r2, r3, r4, r5, r6, r7, r8⟩ := q2.2.2.1
      have gl := lkPg_g hp (P p) 0 (ms.1 p hp).1 k (List.mem_of_getElem? hk)
      have w0 : hI h2 261 0 0 = nI k.1 := r5.1.1
      have w1 : hI h2 261 0 1 = bI (decide (txO k.2.1 ≠ [])) := r5.1.2.1
      refine ⟨⟨fun e => ⟨?_, e2⟩, fun e => ⟨inb (by omega) (by omega), ?_, e2⟩, fun e => ⟨inb (by omega) (by omega), ?_, e2⟩, fun e => ⟨?_, e2⟩, fun e => ?_, True.intro⟩, fun e => ⟨?_, e2⟩⟩
      · rw [e, ix (by omega)] at hq; rw [r1]; exact hq
      · rw [e, ix (by omega)] at hq; rw [w0]; exact hq
      · rw [e, ix (by omega)] at hq
        have e3 : decide (txO k.2.1 ≠ []) = decide (k.2.1 ≠ none) := decide_eq_decide.mpr (not_congr (txO_nil gl.2))
        rw [w1, e3]
        exact hq
      · rw [e, ix (by omega)] at hq; rw [r2]; exact hq
      · rw [e, ix (by omega)] at hq
        rw [r2, mulN, ix (by omega), r4.1.1]
        exact ⟨inb (by omega) (by omega), hq, e2⟩
      · obtain ⟨i, hi, rfl⟩ := rngI_t (by omega) g
        rw [nI_toInt (by omega)] at e
        have h5 : i = 5 := by omega
        rw [h5, ix (by omega)] at hq
        rw [r3]
        exact hq
    · rw [if_neg (fun w => by rw [g] at w; cases w)] at hq0
      exact ⟨hq0, e1⟩
  · rw [if_neg (fun w => by rw [h] at w; cases w)] at hq0
    exact ⟨hq0, e1⟩
def brB (P : Nat → List Line) (X : Nat → XA) (rs : List (Pl × Pl)) (k : Lk) : Bool := decide (2 ≤ (rtRun P X rs (k.1, k.2.1)).1)
theorem e_isBroken (d : Nat) (cs : CS σ P X rs es) (hP : gP P) {p j : Nat} {k : Lk} (hp : p < 12) (hk : (lkPg p 0 (P p))[j]? = some k) : PI (d + 3) 100 [vr 1 0, vi (nI p), vi (nI j)] σ (bI (brB P X rs k)) (fun h => RtC h (rtRun P X rs (k.1, k.2.1)) ∧ Fr RF σ h) := by
  refine PI_of mt_100 (Nat.le_of_ble_eq_true rfl) fun Q hq => ?_
  have k4 := rtRun_k P X rs (k.1, k.2.1)
  unfold brB at hq
  refine wp_ok (cut := []) ma_100 rfl 19 _ _ _ _ ?_
  show (vp_in (nI p) 12 ∧ CalV true (d + 2) 43 [vr 225 0, vr 21 ((nI p).toNatClampNeg), vi (nI j)] σ σ.1 (fun s1 => (((hI s1 225 0 1) < (nI 2) → (((nI 0) = 0 ∨ (nI 0) = 1) ∧ (Q (some (vi (nI 0))) s1 ∧ s1.1 = σ.1))) ∧ (¬ (hI s1 225 0 1) < (nI 2) → (((nI 1) = 0 ∨ (nI 1) = 1) ∧ (Q (some (vi (nI 1))) s1 ∧ s1.1 = σ.1))))))
  rw [ix (by omega)]
  refine ⟨inb hp (by omega), cp_v (e_way d cs hP hp hk) rfl (fun h1 q1 e1 => ?_)⟩
  have hq := hq h1 q1
  rw [q1.1.1]
  refine br_lt (by omega) (by omega) (fun g => ?_) (fun g => ?_)
  · rw [decide_eq_false (by omega)] at hq
    exact ⟨Or.inl rfl, hq, e1⟩
  · rw [decide_eq_true g] at hq
    exact ⟨Or.inr rfl, hq, e1⟩
theorem m_isBroken (d : Nat) (ms : MS σ P X rs es) {p j : Nat} {k : Lk} (hp : p < 12) (hk : (lkPg p 0 (P p))[j]? = some k) : PI (d + 9) 193 [vr 233 0, vi (nI p), vi (nI j)] σ (bI (brB P X rs k)) (fun h => MS h P X rs es ∧ LdX h P X ∧ RmE σ h (k.1, k.2.1) (rtRun P X rs (k.1, k.2.1)) ∧ FrM SQ σ h) := by
  refine PI_of mt_193 (Nat.le_of_ble_eq_true rfl) fun Q hq => ?_
  have k4 := rtRun_k P X rs (k.1, k.2.1)
  unfold brB at hq
  refine wp_ok (cut := []) ma_193 rfl 11 _ _ _ _ ?_
  show CalV true (d + 8) 177 [vr 233 0, vi (nI p), vi (nI j)] σ σ.1 (fun s1 => (((hI s1 233 0 36) ≤ (nI 1) → (((nI 0) = 0 ∨ (nI 0) = 1) ∧ (Q (some (vi (nI 0))) s1 ∧ s1.1 = σ.1))) ∧ (¬ (hI s1 233 0 36) ≤ (nI 1) → (((nI 1) = 0 ∨ (nI 1) = 1) ∧ (Q (some (vi (nI 1))) s1 ∧ s1.1 = σ.1)))))
  refine cp_v (m_resolve d ms hp hk) rfl (fun h1 q1 e1 => ?_)
  have hq := hq h1 q1
  rw [q1.2.2.1.1]
  refine br_le (by omega) (by omega) (fun g => ?_) (fun g => ?_)
  · rw [decide_eq_false (by omega)] at hq
    exact ⟨Or.inl rfl, hq, e1⟩
  · rw [decide_eq_true (show 2 ≤ (rtRun P X rs (k.1, k.2.1)).1 from g)] at hq
    exact ⟨Or.inr rfl, hq, e1⟩
end
