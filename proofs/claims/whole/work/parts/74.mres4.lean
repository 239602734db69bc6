/-! the model's site; layAll and resolve over it -/
def MS (σ : Hp) (P : Nat → List Line) (X : Nat → XA) (rs : List (Pl × Pl)) (es : List En) : Prop := gP P ∧ (∀ p, p < 12 → XFin P p (X p) ∧ (X p).2.2.1.length ≤ 100) ∧ (∀ p, p < 12 → SrcM σ p (P p)) ∧ IsLd σ P ∧ TrsM σ rs ∧ EnsM σ es
def LdX (h : Hp) (P : Nat → List Line) (X : Nat → XA) : Prop := hI h 233 0 5 = nI 1 ∧ ∀ p, p < 12 → LdP h p (P p) (X p).2.2.1 ∧ (P p ≠ [] → hI h 239 0 p = nI (X p).1 ∧ hI h 240 0 p = (X p).2.1)
theorem LdX_of {h : Hp} {P : Nat → List Line} {X : Nat → XA} (hX : ∀ p, p < 12 → XFin P p (X p) ∧ (X p).2.2.1.length ≤ 100) (k : LaidM h P) (k5 : hI h 233 0 5 = nI 1) : LdX h P X := by
  refine ⟨k5, fun p hp => ?_⟩
  obtain ⟨x, x1, x2, x3, x4⟩ := k p hp
  have e := XFin_one x1 (hX p hp).1
  rw [← e]
  exact ⟨x3, x4⟩
theorem LdX_is {h : Hp} {P : Nat → List Line} {X : Nat → XA} (hX : ∀ p, p < 12 → XFin P p (X p) ∧ (X p).2.2.1.length ≤ 100) (k : LdX h P X) : IsLd h P := ⟨true, k.1, fun _ p hp => ⟨X p, (hX p hp).1, (hX p hp).2, (k.2 p hp).1, (k.2 p hp).2⟩⟩
theorem LdX_fr {S : Nat → Nat → Prop} {σ h : Hp} {P : Nat → List Line} {X : Nat → XA} (hP : gP P) (hX : ∀ p, p < 12 → XFin P p (X p) ∧ (X p).2.2.1.length ≤ 100) (f : FrM S σ h) (n : ∀ p f k, p < 12 → Reg p f k → ¬ S f k) (n5 : ¬ S 233 5) (k : LdX σ P X) : LdX h P X := by
  have fr : ∀ g k, ¬ S g k → hI h g 0 k = hI σ g 0 k := fun g k n => f.2.2.2 g 0 k fun w => n w.2
  refine ⟨by rw [fr 233 5 n5]; exact k.1, fun p hp => ⟨LdP_cong (hX p hp).2 (bds hP hp).1 (bds hP hp).2 (fun g k w => fr g k (n p g k hp w)) (k.2 p hp).1, fun w => ?_⟩⟩
  rw [fr 239 p (n p 239 p hp (by unfold Reg; omega)), fr 240 p (n p 240 p hp (by unfold Reg; omega))]
  exact (k.2 p hp).2 w
theorem MS_fr {S : Nat → Nat → Prop} {σ h : Hp} {P : Nat → List Line} {X : Nat → XA} {rs : List (Pl × Pl)} {es : List En} (f : FrM S σ h) (n : ∀ k, ¬ S 235 k) (l : IsLd h P) (k : MS σ P X rs es) : MS h P X rs es := ⟨k.1, k.2.1, fun p hp => SrcM_fm f n (k.2.2.1 p hp), l, TrsM_fr f n k.2.2.2.2.1, EnsM_fr f n k.2.2.2.2.2⟩
def RmE (σ h : Hp) (x0 : Pl) (r : Rs) : Prop := hI h 233 0 36 = nI r.1 ∧ hI h 233 0 35 = nI r.2.2.2.length ∧ hI h 233 0 37 = r.2.2.1 ∧ SeenM h r.2.2.2.length r.2.1 ∧ SeenM h 0 x0 ∧ (∀ q, q < 12 → hI h 262 0 q = hI σ 262 0 q + nI (usN q r.2.2.2)) ∧ (∀ u ∈ r.2.2.2, u < 12) ∧ r.2.2.2.length ≤ 169
section
variable {σ : Hp} {P : Nat → List Line} {X : Nat → XA} {rs : List (Pl × Pl)} {es : List En}
theorem m_lay (d : Nat) (k : MS σ P X rs es) : PV (d + 5) 157 [vr 233 0] σ (fun h => MS h P X rs es ∧ LdX h P X ∧ FrM SLay σ h) := by
  refine PV_of mt_157 (Nat.le_of_ble_eq_true rfl) fun Q hq => ?_
  have fin : ∀ h, LaidM h P → hI h 233 0 5 = nI 1 → FrM SLay σ h → Q none h := fun h q1 q2 q3 => by
    have l := LdX_of k.2.1 q1 q2
    exact hq h ⟨MS_fr q3 (fun k => by unfold SLay; omega) (LdX_is k.2.1 l) k, l, q3⟩
  obtain ⟨b, b1, b2⟩ := k.2.2.2.1
  refine wp_ok (cut := [15, 70]) ma_157 rfl 8 _ _ _ _ ?_
  show (((hI σ 233 0 5) = 0 → (((nI 1) = 0 ∨ (nI 1) = 1) ∧ Sat true (d + 5) 157 σ.1 Q 15 [some (vr 233 0), some (vi (nI 0))] [] (setI σ 233 0 5 (nI 1)))) ∧ (¬ (hI σ 233 0 5) = 0 → (Q none σ ∧ σ.1 = σ.1)))
  rw [b1]
  refine brI (fun g => ?_) (fun g => ?_)
  · exact ⟨Or.inr rfl, s_lay1 k.1 k.2.2.1 (fun p hp => ⟨X p, k.2.1 p hp⟩) fin 12 0 _ (by omega) ((FrM.rfl' SLay σ).sI (f := 233) (Or.inr ⟨rfl, Or.inl rfl⟩) _) (hI_s _ _ _ _ _) (fun p hp => absurd hp (Nat.not_lt_zero _))⟩
  · exact ⟨fin σ (b2 g) (by rw [b1, g]; rfl) (FrM.rfl' _ _), rfl⟩
theorem LdX_h (k : LdX σ P X) (hX : ∀ p, p < 12 → XFin P p (X p) ∧ (X p).2.2.1.length ≤ 100) : ∀ q, q < 12 → (X q).2.2.1.length ≤ 100 ∧ hI σ 241 0 q = nI (X q).2.2.1.length ∧ All (X q).2.2.1 (HedM σ q (X q).2.2.1) := fun q hq => ⟨(hX q hq).2, (k.2 q hq).1.1, (k.2 q hq).1.2.1⟩
set_option maxRecDepth 6000 in
theorem m_resolve (d : Nat) (ms : MS σ P X rs es) {p l : Nat} {k : Lk} (hp : p < 12) (hl : (lkPg p 0 (P p))[l]? = some k) : PV (d + 8) 177 [vr 233 0, vi (nI p), vi (nI l)] σ (fun h => MS h P X rs es ∧ LdX h P X ∧ RmE σ h (k.1, k.2.1) (rtRun P X rs (k.1, k.2.1)) ∧ FrM SQ σ h) := by
  refine PV_of mt_177 (Nat.le_of_ble_eq_true rfl) fun Q hq => ?_
  have hlk := All_lt hl
  have h42 := (bds ms.1 hp).2
  have gk := lkPg_g hp (P p) 0 (ms.1 p hp).1 k (List.mem_of_getElem? hl)
  refine wp_ok (cut := [54]) ma_177 rfl 33 _ _ _ _ ?_
  show CalV true (d + 7) 157 [vr 233 0] σ σ.1 (fun s1 => CalI true (d + 7) 145 [vi (nI p), vi (nI l)] s1 σ.1 (fun x3 s2 => (vp_in (((nI 42) * (nI p)) + (nI l)) 504 ∧ (vp_in (nI 0) 5600 ∧ (vp_in x3 20448 ∧ (((hI s2 245 0 x3.toNatClampNeg) ≤ 0 → (vp_in (nI 1) 5600 ∧ Sat true (d + 8) 177 σ.1 Q 54 [some (vr 233 0), some (vi (nI p)), some (vi (nI l)), some (vi (((nI 42) * (nI p)) + (nI l))), some (vi x3), some (vi (nI 0)), none] [] (setI (setI s2 261 0 0 (hI s2 256 0 ((((nI 42) * (nI p)) + (nI l)).toNatClampNeg))) 261 0 1 (nI 0)))) ∧ (¬ (hI s2 245 0 x3.toNatClampNeg) ≤ 0 → (vp_in (nI 1) 5600 ∧ Sat true (d + 8) 177 σ.1 Q 54 [some (vr 233 0), some (vi (nI p)), some (vi (nI l)), some (vi (((nI 42) * (nI p)) + (nI l))), some (vi x3), some (vi (nI 0)), none] [] (setI (setI s2 261 0 0 (hI s2 256 0 ((((nI 42) * (nI p)) + (nI l)).toNatClampNeg))) 261 0 1 (nI 1))))))))))
  refine cp_v (m_lay (d + 2) ms) rfl (fun h1 q1 _ => ?_)
  obtain ⟨ms1, ld1, f1⟩ := q1
  obtain ⟨c1, c2, c3, c4⟩ := (ld1.2 p hp).1.2.2.2.2.2.2.1 l k hl
  refine cal_i (m_linkAnchor (d + 7) h1 p l) f1.1 ?_
  rw [mulN, addN, ix (by omega), ix (by omega), c3, c4.1]
  -- the rest, from the loop that takes the anchor over
  have loop : ∀ (m i : Nat) (u : Nat → Int32), i + m = 12 → u 0 = nI k.1 → u 1 = bI (decide (txO k.2.1 ≠ [])) → (∀ j, j < i → u (2 + j) = hI h1 245 0 (14400 + 12 * (42 * p + l) + j)) → Sat true (d + 8) 177 σ.1 Q 54 (rsL p l (nI (42 * p + l)) (nI (14400 + 12 * (42 * p + l))) (some (vi (nI i))) none) [] (arrI h1 261 0 u) := by
    intro m
    induction m with
    | zero =>
      intro i u hi u0 u1 u2
      refine wp_ok (cut := [54, 97]) ma_177 rfl 17 _ _ _ _ ?_
      show (((nI 12) ≤ (nI i) → Sat true (d + 8) 177 σ.1 Q 97 [some (vr 233 0), some (vi (nI p)), some (vi (nI l)), some (vi (nI (42 * p + l))), some (vi (nI (14400 + 12 * (42 * p + l)))), some (vi (nI i)), none] [] (setI (setI (arrI h1 261 0 u) 233 0 35 (nI 0)) 233 0 36 (-6))) ∧ (¬ (nI 12) ≤ (nI i) → (vp_in ((nI (14400 + 12 * (42 * p + l))) + (nI i)) 20448 ∧ (vp_in ((nI 2) + (nI i)) 5600 ∧ Sat true (d + 8) 177 σ.1 Q 54 [some (vr 233 0), some (vi (nI p)), some (vi (nI l)), some (vi (nI (42 * p + l))), some (vi (nI (14400 + 12 * (42 * p + l)))), some (vi ((nI i) + nI 1)), none] [] (setI (arrI h1 261 0 u) 261 0 (((nI 2) + (nI i)).toNatClampNeg) (hI (arrI h1 261 0 u) 245 0 (((nI (14400 + 12 * (42 * p + l))) + (nI i)).toNatClampNeg)))))))
      refine br_le (by omega) (by omega) (fun _ => Sat_no 5 ?_) (fun g => by omega)
      have fz : FrM SRes h1 (setI (setI (arrI h1 261 0 u) 233 0 35 (nI 0)) 233 0 36 (-6)) := ((FrM.aI (FrM.rfl' SRes h1) fun k hk => absurd (Or.inl rfl) hk).sI (f := 233) (Or.inr (Or.inr ⟨rfl, Or.inl rfl⟩)) _).sI (f := 233) (Or.inr (Or.inr ⟨rfl, Or.inr (Or.inl rfl)⟩)) _
      have row : SeenM (setI (setI (arrI h1 261 0 u) 233 0 35 (nI 0)) 233 0 36 (-6)) 0 (k.1, k.2.1) := by
        refine ⟨?_, gk.1, gk.2⟩
        simp (disch := omega) only [hI_f, hI_a]
        refine ⟨u0, u1, ?_, fun j hj => ?_⟩
        · have := u2 0 (by omega)
          rw [Nat.add_zero] at this
          have e : u 2 = _ := this
          show u (14 * 0 + 2) = _
          rw [e]
          exact c4.1
        · have := u2 (1 + j) (by omega)
          rw [show 14 * 0 + 2 + 1 + j = 2 + (1 + j) by omega, this, show 14400 + 12 * (42 * p + l) + (1 + j) = 14400 + 12 * (42 * p + l) + 1 + j by omega]
          exact c4.2 j hj
      have hH := LdX_h ld1 ms.2.1
      have lp := s_resLoop (σ := h1) (P := P) (X := X) (rs := rs) (Q := Q) (d := d) (p := p) (l := l) (m := nI (42 * p + l)) (o := nI (14400 + 12 * (42 * p + l))) (x0 := (k.1, k.2.1)) ms1.2.2.1 hH ms1.2.2.2.2.1 169 [] [] (k.1, k.2.1) (setI (setI (arrI h1 261 0 u) 233 0 35 (nI 0)) 233 0 36 (-6)) rfl ⟨hI_s _ _ _ _ _, by simp (disch := omega) only [hI_s, hI_k, hI_f, hI_sL, hL_sI, hL_s, hL_k, hL_f]; rfl, rfl, ?_, rfl, fun r hr => ?_, fun u hu => (by cases hu), List.nodup_nil, fun y hy => ?_, fz⟩ (fun h2 c => ?_)
      · rw [f1.1] at lp
        exact lp
      · exact All_snoc (P := SeenM (setI (setI (arrI h1 261 0 u) 233 0 35 (nI 0)) 233 0 36 (-6))) All_nil (fun j x hj => absurd hj (Nat.not_lt_zero _)) row
      · simp (disch := omega) only [hI_f, hI_af]
        show _ = _ + nI 0
        rw [show nI 0 = (0 : Int32) from rfl, Int32.add_zero]
      · cases hy with
        | head => exact List.mem_cons_self
        | tail _ w => cases w
      · obtain ⟨r1, r2, r3, r4, r5, r6, r7, r8, r9⟩ := c
        have l2 := LdX_fr (X := X) ms.1 ms.2.1 r9 (fun p f k _ w => by unfold Reg at w; unfold SRes; omega) (by unfold SRes; omega) ld1
        refine hq h2 ⟨MS_fr r9 (fun k => by unfold SRes; omega) (LdX_is ms.2.1 l2) ms1, l2, ⟨r1, r2, r3, r4, r5, fun q hq => ?_, r7, r8⟩, (f1.mo fun f k w => Or.inl w).tr (r9.mo fun f k w => Or.inr w)⟩
        rw [r6 q hq, f1.2.2.2 262 0 q (fun w => by have w := w.2; unfold SLay at w; omega)]
        rfl
    | succ m ih =>
      intro i u hi u0 u1 u2
      refine wp_ok (cut := [54, 97]) ma_177 rfl 17 _ _ _ _ ?_
      show (((nI 12) ≤ (nI i) → Sat true (d + 8) 177 σ.1 Q 97 [some (vr 233 0), some (vi (nI p)), some (vi (nI l)), some (vi (nI (42 * p + l))), some (vi (nI (14400 + 12 * (42 * p + l)))), some (vi (nI i)), none] [] (setI (setI (arrI h1 261 0 u) 233 0 35 (nI 0)) 233 0 36 (-6))) ∧ (¬ (nI 12) ≤ (nI i) → (vp_in ((nI (14400 + 12 * (42 * p + l))) + (nI i)) 20448 ∧ (vp_in ((nI 2) + (nI i)) 5600 ∧ Sat true (d + 8) 177 σ.1 Q 54 [some (vr 233 0), some (vi (nI p)), some (vi (nI l)), some (vi (nI (42 * p + l))), some (vi (nI (14400 + 12 * (42 * p + l)))), some (vi ((nI i) + nI 1)), none] [] (setI (arrI h1 261 0 u) 261 0 (((nI 2) + (nI i)).toNatClampNeg) (hI (arrI h1 261 0 u) 245 0 (((nI (14400 + 12 * (42 * p + l))) + (nI i)).toNatClampNeg)))))))
      rw [addN, addN, addN, ix (by omega), ix (by omega), arrI_setI, hI_af _ _ (by decide)]
      refine br_le (by omega) (by omega) (fun g => by omega) (fun _ => ⟨inb (by omega) (by omega), inb (by omega) (by omega), ih (i + 1) _ (by omega) ?_ ?_ (fun j hj => ?_)⟩)
      · unfold upd
        rw [if_neg (by omega)]
        exact u0
      · unfold upd
        rw [if_neg (by omega)]
        exact u1
      · unfold upd
        by_cases c : j = i
        · rw [if_pos (by omega), c]
        · rw [if_neg (by omega)]
          exact u2 j (by omega)
  have len : (txO k.2.1).length ≤ 11 := txO_len gk.2
  have go : ∀ b : Bool, b = decide (txO k.2.1 ≠ []) → Sat true (d + 8) 177 σ.1 Q 54 (rsL p l (nI (42 * p + l)) (nI (14400 + 12 * (42 * p + l))) (some (vi (nI 0))) none) [] (setI (setI h1 261 0 0 (nI k.1)) 261 0 1 (bI b)) := by
    intro b hb
    rw [arrI_upd h1, arrI_setI]
    refine loop 12 0 _ (by omega) ?_ ?_ (fun j hj => absurd hj (Nat.not_lt_zero _))
    · rfl
    · show upd (upd (hI h1 261 0) 0 (nI k.1)) 1 (bI b) 1 = _
      unfold upd
      rw [if_pos rfl, hb]
  refine ⟨inb (by omega) (by omega), inb (by omega) (by omega), inb (by omega) (by omega), br_le (b := 0) (by omega) (by omega) (fun g => ⟨inb (by omega) (by omega), go false ?_⟩) (fun g => ⟨inb (by omega) (by omega), go true ?_⟩)⟩
  · exact (decide_eq_false (fun w => w (List.eq_nil_of_length_eq_zero (by omega)))).symm
  · refine (decide_eq_true ?_).symm
    intro w
    rw [w] at g
    cases g
end
