/-! the law: its loop and its start -/
theorem Sat_up {md : Bool} {d d' mi : Nat} {B : Nat × Nat × Nat} {Q : Option AV → Hp → Prop} {pc : Nat} {ls : Ls} {st : List AV} {σ : Hp} (hd : d ≤ d') (h : Sat md d mi B Q pc ls st σ) : Sat md d' mi B Q pc ls st σ := by
  intro me hme p l e R s m args below meth c Qm D dT z b n0 t0 X
  obtain ⟨x1, x2, x3, x4, x5, x6, x7, x8, x9⟩ := X
  exact h me hme p l e R s m args below meth c Qm D dT z b n0 t0 ⟨x1, x2, x3, x4, x5, x6, by omega, by omega, x9⟩
theorem end_c {L i : Nat} (hL : L ≤ 2048) (hi : i ≤ 2052) : (Int32.ofNat L - nI 4 < nI i) ↔ L < i + 4 := by
  show (nI L - nI 4 < nI i) ↔ L < i + 4
  by_cases c : 4 ≤ L
  · rw [subN c, ltN (by omega) (by omega)]
    omega
  · have hx : L = 0 ∨ L = 1 ∨ L = 2 ∨ L = 3 := by omega
    rw [fa_lt, nI_toInt (by omega)]
    rcases hx with e | e | e | e
    · subst e
      rw [show (nI 0 - nI 4).toInt = -4 by decide]
      omega
    · subst e
      rw [show (nI 1 - nI 4).toInt = -3 by decide]
      omega
    · subst e
      rw [show (nI 2 - nI 4).toInt = -2 by decide]
      omega
    · subst e
      rw [show (nI 3 - nI 4).toInt = -1 by decide]
      omega
def pcL : List Nat := [144, 197, 210, 233, 256, 279, 312, 345, 388, 431, 474, 487, 500, 523, 556, 599, 622, 655, 688, 731, 764, 777, 810, 823]
section
variable {L m n mf i : Nat} {xs : Nat → Int32} {t : Nat → Nat} {D : List DB} {x : DB} {h : Hp} {Q : Option AV → Hp → Prop}
set_option maxRecDepth 8000 in
theorem s_18 (hL : L ≤ 2048) (hi : i + 4 ≤ L) (lw : LwI L xs m n t D x h) (K : ∀ c, c < 24 → xs i &&& nI 31 = nI c → Sat false 36 204 (Bm mf L) Q (pcL.getD c 0) [some (vr 0 0), some (vr 1 0), some (vr 233 0), some (vi (nI i))] [] h) (Kd : ((xs i &&& nI 31).toInt < 0 ∨ 23 < (xs i &&& nI 31).toInt) → Sat false 36 204 (Bm mf L) Q 846 [some (vr 0 0), some (vr 1 0), some (vr 233 0), some (vi (nI i))] [] h) : Sat false 36 204 (Bm mf L) Q 18 [some (vr 0 0), some (vr 1 0), some (vr 233 0), some (vi (nI i))] [] h := by
  have c12 : h.1.2.2 = L := congrArg (fun q => q.2.2) lw.2.1
  refine wp_ok (cut := [18, 144, 197, 210, 233, 256, 279, 312, 345, 388, 431, 474, 487, 500, 523, 556, 599, 622, 655, 688, 731, 764, 777, 810, 823, 846]) ma_204 rfl 12 _ _ _ _ ?_
  show ((((Int32.ofNat h.1.2.2) - (nI 4)) < (nI i) → (((nI 1) = 0 ∨ (nI 1) = 1) ∧ (Q (some (vi (nI 1))) h ∧ h.1 = Bm mf L))) ∧ (¬ ((Int32.ofNat h.1.2.2) - (nI 4)) < (nI i) → (vp_in (nI i) h.1.2.2 ∧ (((((hI h 0 0 ((nI i).toNatClampNeg)) &&& (nI 31)) = nI 0 → Sat false 36 204 (Bm mf L) Q 144 [some (vr 0 0), some (vr 1 0), some (vr 233 0), some (vi (nI i))] [] h) ∧ ((((hI h 0 0 ((nI i).toNatClampNeg)) &&& (nI 31)) = nI 1 → Sat false 36 204 (Bm mf L) Q 197 [some (vr 0 0), some (vr 1 0), some (vr 233 0), some (vi (nI i))] [] h) ∧ ((((hI h 0 0 ((nI i).toNatClampNeg)) &&& (nI 31)) = nI 2 → Sat false 36 204 (Bm mf L) Q 210 [some (vr 0 0), some (vr 1 0), some (vr 233 0), some (vi (nI i))] [] h) ∧ ((((hI h 0 0 ((nI i).toNatClampNeg)) &&& (nI 31)) = nI 3 → Sat false 36 204 (Bm mf L) Q 233 [some (vr 0 0), some (vr 1 0), some (vr 233 0), some (vi (nI i))] [] h) ∧ ((((hI h 0 0 ((nI i).toNatClampNeg)) &&& (nI 31)) = nI 4 → Sat false 36 204 (Bm mf L) Q 256 [some (vr 0 0), some (vr 1 0), some (vr 233 0), some (vi (nI i))] [] h) ∧ ((((hI h 0 0 ((nI i).toNatClampNeg)) &&& (nI 31)) = nI 5 → Sat false 36 204 (Bm mf L) Q 279 [some (vr 0 0), some (vr 1 0), some (vr 233 0), some (vi (nI i))] [] h) ∧ ((((hI h 0 0 ((nI i).toNatClampNeg)) &&& (nI 31)) = nI 6 → Sat false 36 204 (Bm mf L) Q 312 [some (vr 0 0), some (vr 1 0), some (vr 233 0), some (vi (nI i))] [] h) ∧ ((((hI h 0 0 ((nI i).toNatClampNeg)) &&& (nI 31)) = nI 7 → Sat false 36 204 (Bm mf L) Q 345 [some (vr 0 0), some (vr 1 0), some (vr 233 0), some (vi (nI i))] [] h) ∧ ((((hI h 0 0 ((nI i).toNatClampNeg)) &&& (nI 31)) = nI 8 → Sat false 36 204 (Bm mf L) Q 388 [some (vr 0 0), some (vr 1 0), some (vr 233 0), some (vi (nI i))] [] h) ∧ ((((hI h 0 0 ((nI i).toNatClampNeg)) &&& (nI 31)) = nI 9 → Sat false 36 204 (Bm mf L) Q 431 [some (vr 0 0), some (vr 1 0), some (vr 233 0), some (vi (nI i))] [] h) ∧ ((((hI h 0 0 ((nI i).toNatClampNeg)) &&& (nI 31)) = nI 10 → Sat false 36 204 (Bm mf L) Q 474 [some (vr 0 0), some (vr 1 0), some (vr 233 0), some (vi (nI i))] [] h) ∧ ((((hI h 0 0 ((nI i).toNatClampNeg)) &&& (nI 31)) = nI 11 → Sat false 36 204 (Bm mf L) Q 487 [some (vr 0 0), some (vr 1 0), some (vr 233 0), some (vi (nI i))] [] h) ∧ ((((hI h 0 0 ((nI i).toNatClampNeg)) &&& (nI 31)) = nI 12 → Sat false 36 204 (Bm mf L) Q 500 [some (vr 0 0), some (vr 1 0), some (vr 233 0), some (vi (nI i))] [] h) ∧ ((((hI h 0 0 ((nI i).toNatClampNeg)) &&& (nI 31)) = nI 13 → Sat false 36 204 (Bm mf L) Q 523 [some (vr 0 0), some (vr 1 0), some (vr 233 0), some (vi (nI i))] [] h) ∧ ((((hI h 0 0 ((nI i).toNatClampNeg)) &&& (nI 31)) = nI 14 → Sat false 36 204 (Bm mf L) Q 556 [some (vr 0 0), some (vr 1 0), some (vr 233 0), some (vi (nI i))] [] h) ∧ ((((hI h 0 0 ((nI i).toNatClampNeg)) &&& (nI 31)) = nI 15 → Sat false 36 204 (Bm mf L) Q 599 [some (vr 0 0), some (vr 1 0), some (vr 233 0), some (vi (nI i))] [] h) ∧ ((((hI h 0 0 ((nI i).toNatClampNeg)) &&& (nI 31)) = nI 16 → Sat false 36 204 (Bm mf L) Q 622 [some (vr 0 0), some (vr 1 0), some (vr 233 0), some (vi (nI i))] [] h) ∧ ((((hI h 0 0 ((nI i).toNatClampNeg)) &&& (nI 31)) = nI 17 → Sat false 36 204 (Bm mf L) Q 655 [some (vr 0 0), some (vr 1 0), some (vr 233 0), some (vi (nI i))] [] h) ∧ ((((hI h 0 0 ((nI i).toNatClampNeg)) &&& (nI 31)) = nI 18 → Sat false 36 204 (Bm mf L) Q 688 [some (vr 0 0), some (vr 1 0), some (vr 233 0), some (vi (nI i))] [] h) ∧ ((((hI h 0 0 ((nI i).toNatClampNeg)) &&& (nI 31)) = nI 19 → Sat false 36 204 (Bm mf L) Q 731 [some (vr 0 0), some (vr 1 0), some (vr 233 0), some (vi (nI i))] [] h) ∧ ((((hI h 0 0 ((nI i).toNatClampNeg)) &&& (nI 31)) = nI 20 → Sat false 36 204 (Bm mf L) Q 764 [some (vr 0 0), some (vr 1 0), some (vr 233 0), some (vi (nI i))] [] h) ∧ ((((hI h 0 0 ((nI i).toNatClampNeg)) &&& (nI 31)) = nI 21 → Sat false 36 204 (Bm mf L) Q 777 [some (vr 0 0), some (vr 1 0), some (vr 233 0), some (vi (nI i))] [] h) ∧ ((((hI h 0 0 ((nI i).toNatClampNeg)) &&& (nI 31)) = nI 22 → Sat false 36 204 (Bm mf L) Q 810 [some (vr 0 0), some (vr 1 0), some (vr 233 0), some (vi (nI i))] [] h) ∧ ((((hI h 0 0 ((nI i).toNatClampNeg)) &&& (nI 31)) = nI 23 → Sat false 36 204 (Bm mf L) Q 823 [some (vr 0 0), some (vr 1 0), some (vr 233 0), some (vi (nI i))] [] h) ∧ True)))))))))))))))))))))))) ∧ ((((hI h 0 0 ((nI i).toNatClampNeg)) &&& (nI 31)).toInt < 0 ∨ 23 < ((hI h 0 0 ((nI i).toNatClampNeg)) &&& (nI 31)).toInt) → Sat false 36 204 (Bm mf L) Q 846 [some (vr 0 0), some (vr 1 0), some (vr 233 0), some (vi (nI i))] [] h)))))
  rw [ix (by omega), c12, lw.2.2.2.2 i]
  refine ⟨fun g => absurd ((end_c hL (by omega)).mp g) (by omega), fun _ => ⟨inb (by omega) (by omega), ⟨fun w => K 0 (by omega) w, fun w => K 1 (by omega) w, fun w => K 2 (by omega) w, fun w => K 3 (by omega) w, fun w => K 4 (by omega) w, fun w => K 5 (by omega) w, fun w => K 6 (by omega) w, fun w => K 7 (by omega) w, fun w => K 8 (by omega) w, fun w => K 9 (by omega) w, fun w => K 10 (by omega) w, fun w => K 11 (by omega) w, fun w => K 12 (by omega) w, fun w => K 13 (by omega) w, fun w => K 14 (by omega) w, fun w => K 15 (by omega) w, fun w => K 16 (by omega) w, fun w => K 17 (by omega) w, fun w => K 18 (by omega) w, fun w => K 19 (by omega) w, fun w => K 20 (by omega) w, fun w => K 21 (by omega) w, fun w => K 22 (by omega) w, fun w => K 23 (by omega) w, trivial⟩, Kd⟩⟩
set_option maxRecDepth 8000 in
theorem s_846 (lw : LwI L xs m n t D x h) (K : Sat false 36 204 (Bm mf L) Q 18 [some (vr 0 0), some (vr 1 0), some (vr 233 0), some (vi (nI (i + 4)))] [] h) : Sat false 36 204 (Bm mf L) Q 846 [some (vr 0 0), some (vr 1 0), some (vr 233 0), some (vi (nI i))] [] h := by
  refine wp_ok (cut := [18]) ma_204 rfl 2 _ _ _ _ ?_
  show Sat false 36 204 (Bm mf L) Q 18 [some (vr 0 0), some (vr 1 0), some (vr 233 0), some (vi ((nI i) + nI 4))] [] h
  rw [addN]
  exact K
set_option maxRecDepth 8000 in
theorem s_end (hL : L ≤ 2048) (hi : i ≤ 2052) (hl : L < i + 4) (hQ : ∀ h, Q (some (vi (nI 1))) h) (lw : LwI L xs m n t D x h) : Sat false 36 204 (Bm m L) Q 18 [some (vr 0 0), some (vr 1 0), some (vr 233 0), some (vi (nI i))] [] h := by
  have c12 : h.1.2.2 = L := congrArg (fun q => q.2.2) lw.2.1
  refine wp_ok (cut := [18, 26]) ma_204 rfl 8 _ _ _ _ ?_
  show ((((Int32.ofNat h.1.2.2) - (nI 4)) < (nI i) → (((nI 1) = 0 ∨ (nI 1) = 1) ∧ (Q (some (vi (nI 1))) h ∧ h.1 = Bm m L))) ∧ (¬ ((Int32.ofNat h.1.2.2) - (nI 4)) < (nI i) → Sat false 36 204 (Bm m L) Q 26 [some (vr 0 0), some (vr 1 0), some (vr 233 0), some (vi (nI i))] [] h))
  rw [c12]
  exact ⟨fun _ => ⟨Or.inr rfl, hQ h, lw.2.1⟩, fun g => absurd ((end_c hL hi).mpr hl) g⟩
end
section
variable {L : Nat} {xs : Nat → Int32} {Q : Option AV → Hp → Prop}
/-- from the head of the loop on -/
def LpC (L : Nat) (xs : Nat → Int32) (Q : Option AV → Hp → Prop) (i : Nat) : Prop := ∀ (m n : Nat) (t : Nat → Nat) (D : List DB) (x : DB), m ≤ 10 → ∃ mf, m ≤ mf ∧ mf ≤ 10 ∧ ∀ h, InP D x → LwI L xs m n t D x h → Sat false 36 204 (Bm mf L) Q 18 [some (vr 0 0), some (vr 1 0), some (vr 233 0), some (vi (nI i))] [] h
theorem lp_case {i c mc mm : Nat} {as : List AV} (hL : L ≤ 2048) (hi : i + 4 ≤ L) (hc : c < 24) (hx : xs i &&& nI 31 = nI c) (op : OpOK mc mm as) (ih : LpC L xs Q (i + 4)) (step : ∀ {m n m' n' mf : Nat} {t t' : Nat → Nat} {D D' : List DB} {x x' : DB} {v : Int32} {h : Hp}, OpAt L mc mm as m n t D x v m' n' t' D' x' → m' ≤ mf → LwI L xs m n t D x h → (∀ h2, InP D' x' → LwI L xs m' n' t' D' x' h2 → Sat false 36 204 (Bm mf L) Q 846 [some (vr 0 0), some (vr 1 0), some (vr 233 0), some (vi (nI i))] [] h2) → Sat false 36 204 (Bm mf L) Q (pcL.getD c 0) [some (vr 0 0), some (vr 1 0), some (vr 233 0), some (vi (nI i))] [] h) : LpC L xs Q i := by
  intro m n t D x hm
  by_cases ip : InP D x
  · obtain ⟨v, m', n', t', D', x', ⟨b1, b2⟩, o1, o2⟩ := op L m n t D x ip
    obtain ⟨mf, f1, f2, f3⟩ := ih m' n' t' D' x' (b2 hm)
    refine ⟨mf, Nat.le_trans b1 f1, f2, fun h _ lw => s_18 hL hi lw (fun c' hc' w => ?_) (fun w => ?_)⟩
    · have e : c = c' := (eqN (by omega) (by omega)).mp (hx.symm.trans w)
      subst e
      exact step ⟨o1, o2⟩ f1 lw (fun h2 i2 l2 => s_846 l2 (f3 h2 i2 l2))
    · rw [hx, nI_toInt (by omega)] at w
      omega
  · exact ⟨m, Nat.le_refl _, hm, fun h w => absurd w ip⟩
theorem lp_no {i : Nat} (hL : L ≤ 2048) (hi : i + 4 ≤ L) (hx : ∀ c, c < 24 → xs i &&& nI 31 ≠ nI c) (ih : LpC L xs Q (i + 4)) : LpC L xs Q i := by
  intro m n t D x hm
  obtain ⟨mf, f1, f2, f3⟩ := ih m n t D x hm
  exact ⟨mf, f1, f2, fun h ip lw => s_18 hL hi lw (fun c hc w => absurd w (hx c hc)) (fun _ => s_846 lw (f3 h ip lw))⟩
theorem lp_all (hL : L ≤ 2048) (hQ : ∀ h, Q (some (vi (nI 1))) h) : ∀ (w i : Nat), i ≤ 2052 → L < i + 4 * w + 4 → LpC L xs Q i := by
  intro w
  induction w with
  | zero => intro i hi hl m n t D x hm; exact ⟨m, Nat.le_refl _, hm, fun h ip lw => s_end hL hi (by omega) hQ lw⟩
  | succ w ih =>
    intro i hi hl
    by_cases c : i + 4 ≤ L
    · have nx := ih (i + 4) (by omega) (by omega)
      by_cases hx : ∃ c, c < 24 ∧ xs i &&& nI 31 = nI c
      · obtain ⟨c, hc, hx⟩ := hx
        have hh : c = 0 ∨ c = 1 ∨ c = 2 ∨ c = 3 ∨ c = 4 ∨ c = 5 ∨ c = 6 ∨ c = 7 ∨ c = 8 ∨ c = 9 ∨ c = 10 ∨ c = 11 ∨ c = 12 ∨ c = 13 ∨ c = 14 ∨ c = 15 ∨ c = 16 ∨ c = 17 ∨ c = 18 ∨ c = 19 ∨ c = 20 ∨ c = 21 ∨ c = 22 ∨ c = 23 := by omega
        rcases hh with e | e | e | e | e | e | e | e | e | e | e | e | e | e | e | e | e | e | e | e | e | e | e | e 
        · subst e; exact lp_case hL (by omega) (by omega) hx (op_putL ((xs (i + 1)).toInt64 <<< ((nI 32).toInt64 &&& 63) ||| (xs (i + 2)).toInt64 &&& lN 4294967295)) nx (fun oa le lw K => lc_0 hL (by omega) oa le lw K)
        · subst e; exact lp_case hL (by omega) (by omega) hx (op_wipe) nx (fun oa le lw K => lc_1 hL (by omega) oa le lw K)
        · subst e; exact lp_case hL (by omega) (by omega) hx (op_fault (xs (i + 1))) nx (fun oa le lw K => lc_2 hL (by omega) oa le lw K)
        · subst e; exact lp_case hL (by omega) (by omega) hx (op_load (xs (i + 1))) nx (fun oa le lw K => lc_3 hL (by omega) oa le lw K)
        · subst e; exact lp_case hL (by omega) (by omega) hx (op_remove (xs (i + 1))) nx (fun oa le lw K => lc_4 hL (by omega) oa le lw K)
        · subst e; exact lp_case hL (by omega) (by omega) hx (op_character (xs (i + 1)) (xs (i + 2))) nx (fun oa le lw K => lc_5 hL (by omega) oa le lw K)
        · subst e; exact lp_case hL (by omega) (by omega) hx (op_about (xs (i + 1)) (xs (i + 2))) nx (fun oa le lw K => lc_6 hL (by omega) oa le lw K)
        · subst e; exact lp_case hL (by omega) (by omega) hx (op_heading (xs (i + 1)) (xs (i + 2)) (xs (i + 3))) nx (fun oa le lw K => lc_7 hL (by omega) oa le lw K)
        · subst e; exact lp_case hL (by omega) (by omega) hx (op_anchor (xs (i + 1)) (xs (i + 2)) (xs (i + 3))) nx (fun oa le lw K => lc_8 hL (by omega) oa le lw K)
        · subst e; exact lp_case hL (by omega) (by omega) hx (op_section (xs (i + 1)) (xs (i + 2)) (xs (i + 3))) nx (fun oa le lw K => lc_9 hL (by omega) oa le lw K)
        · subst e; exact lp_case hL (by omega) (by omega) hx (op_cycles) nx (fun oa le lw K => lc_10 hL (by omega) oa le lw K)
        · subst e; exact lp_case hL (by omega) (by omega) hx (op_redirect) nx (fun oa le lw K => lc_11 hL (by omega) oa le lw K)
        · subst e; exact lp_case hL (by omega) (by omega) hx (op_unredirect (xs (i + 1))) nx (fun oa le lw K => lc_12 hL (by omega) oa le lw K)
        · subst e; exact lp_case hL (by omega) (by omega) hx (op_redirection (xs (i + 1)) (xs (i + 2))) nx (fun oa le lw K => lc_13 hL (by omega) oa le lw K)
        · subst e; exact lp_case hL (by omega) (by omega) hx (op_link (xs (i + 1)) (xs (i + 2)) (xs (i + 3))) nx (fun oa le lw K => lc_14 hL (by omega) oa le lw K)
        · subst e; exact lp_case hL (by omega) (by omega) hx (op_tally (xs (i + 1))) nx (fun oa le lw K => lc_15 hL (by omega) oa le lw K)
        · subst e; exact lp_case hL (by omega) (by omega) hx (op_reach (xs (i + 1)) (xs (i + 2))) nx (fun oa le lw K => lc_16 hL (by omega) oa le lw K)
        · subst e; exact lp_case hL (by omega) (by omega) hx (op_memory (xs (i + 1)) (xs (i + 2))) nx (fun oa le lw K => lc_17 hL (by omega) oa le lw K)
        · subst e; exact lp_case hL (by omega) (by omega) hx (op_repair (xs (i + 1)) (xs (i + 2)) (xs (i + 3))) nx (fun oa le lw K => lc_18 hL (by omega) oa le lw K)
        · subst e; exact lp_case hL (by omega) (by omega) hx (op_mend (xs (i + 1)) (xs (i + 2))) nx (fun oa le lw K => lc_19 hL (by omega) oa le lw K)
        · subst e; exact lp_case hL (by omega) (by omega) hx (op_mendAll) nx (fun oa le lw K => lc_20 hL (by omega) oa le lw K)
        · subst e; exact lp_case hL (by omega) (by omega) hx (op_str (xs (i + 1)) (xs (i + 2))) nx (fun oa le lw K => lc_21 hL (by omega) oa le lw K)
        · subst e; exact lp_case hL (by omega) (by omega) hx (op_undo) nx (fun oa le lw K => lc_22 hL (by omega) oa le lw K)
        · subst e; exact lp_case hL (by omega) (by omega) hx (op_count (xs (i + 1))) nx (fun oa le lw K => lc_23 hL (by omega) oa le lw K)
      · exact lp_no hL c (fun c hc w => hx ⟨c, hc, w⟩) nx
    · intro m n t D x hm
      exact ⟨m, Nat.le_refl _, hm, fun h ip lw => s_end hL hi (by omega) hQ lw⟩
end
theorem Zr_0 (L : Nat) (xs : Nat → Int32) : Zr (sg0 L xs) := fun f p k hf _ => if_neg hf
set_option maxRecDepth 8000 in
/-- both are made -/
theorem s_start {L : Nat} {xs : Nat → Int32} {B : Nat × Nat × Nat} {Q : Option AV → Hp → Prop} (hB : leB (Bm 0 L) B) (K : ∀ h, LwI L xs 0 0 (fun _ => 0) [] x0 h → Sat false 36 204 B Q 18 [some (vr 0 0), some (vr 1 0), some (vr 233 0), some (vi (nI 0))] [] h) : Sat false 36 204 B Q 0 [some (vr 0 0), none, none, none] [] (sg0 L xs) := by
  have b1 : 266 ≤ B.1 := hB.1
  have b2 : 92553 ≤ B.2.1 := hB.2
  have e1 : fa (sg0 L xs).1.1 = (1, 0) := fa_0 (i := 1) (by omega)
  have g1 : (sg0 L xs).1 = (1, 0, L) := rfl
  have z0 := Zr_0 L xs
  have s0 : ∀ k, hI (sg0 L xs) 0 0 k = xs k := fun k => rfl
  generalize sg0 L xs = σ at e1 g1 z0 s0 ⊢
  refine wp_ok (cut := [3]) ma_204 rfl 1 _ _ _ _ ?_
  show (fkd (fa σ.1.1).1 = (8, 9) ∧ σ.1.1 + 1 ≤ B.1 ∧ σ.1.2.1 + 9 ≤ B.2.1 ∧ Sat false 36 204 B Q 3 [some (vr 0 0), none, none, none] [Sum.inr (Sum.inr (some (fa σ.1.1)))] (zap σ (fa σ.1.1).1 (fa σ.1.1).2 9))
  rw [e1]
  refine ⟨rfl, by rw [g1]; show 1 + 1 ≤ B.1; omega, by rw [g1]; show 0 + 9 ≤ B.2.1; omega, ?_⟩
  have g2 : (zap σ 1 0 9).1 = (2, 9, L) := by rw [z_1, g1]
  have z1 : Zr (zap σ 1 0 9) := Zr_z z0 _ _ _
  have s1 : ∀ k, hI (zap σ 1 0 9) 0 0 k = xs k := fun k => by rw [hI_z, if_neg (by omega)]; exact s0 k
  generalize zap σ 1 0 9 = h1 at g2 z1 s1 ⊢
  have c1 : h1.1.1 = 2 := by rw [g2]
  refine wp_ok (cut := [11]) ma_204 rfl 4 _ _ _ _ ?_
  show CalV false 35 68 [vr 1 0] h1 B (fun s1 => (fkd (fa s1.1.1).1 = (9, 46) ∧ s1.1.1 + 1 ≤ B.1 ∧ s1.1.2.1 + 46 ≤ B.2.1 ∧ Sat false 36 204 B Q 11 [some (vr 0 0), some (vr 1 0), none, none] [Sum.inr (Sum.inr (some (fa s1.1.1)))] (zap s1 (fa s1.1.1).1 (fa s1.1.1).2 46)))
  refine cm_v (i_Audit 32 (σ := h1) c1) ⟨by show 233 ≤ B.1; omega, by rw [g2]; show 9 + 15677 ≤ B.2.1; omega⟩ (fun h2 q2 w2 => ?_)
  have g3 : h2.1 = (233, 15686, L) := by rw [w2, g2]
  have e2 : fa h2.1.1 = (233, 0) := by rw [g3]; exact fa_q (i := 233) (by omega) (by omega)
  rw [e2]
  refine ⟨rfl, by rw [g3]; show 233 + 1 ≤ B.1; omega, by rw [g3]; show 15686 + 46 ≤ B.2.1; omega, ?_⟩
  obtain ⟨a1, a2, a3, a4, a5, a6, a7, a8, a9⟩ := q2
  have o1 : ∀ f q, ¬ (f = 233 ∧ q = 0) → Sm h2 (zap h2 233 0 46) f q := fun f q w => o_z w
  have g4 : (zap h2 233 0 46).1 = (234, 15732, L) := by rw [z_1, g3]
  have z4 : Zr (zap h2 233 0 46) := Zr_z (a1 z1) _ _ _
  generalize zap h2 233 0 46 = h3 at o1 g4 z4 ⊢
  have c3 : h3.1.1 = 234 := by rw [g4]
  refine wp_ok (cut := [18]) ma_204 rfl 5 _ _ _ _ ?_
  show CalV false 35 107 [vr 233 0] h3 B (fun s1 => Sat false 36 204 B Q 18 [some (vr 0 0), some (vr 1 0), some (vr 233 0), some (vi (nI 0))] [] s1)
  refine cm_v (i_Model 34 (σ := h3) (by omega) (fun tt ht => by rw [c3]; exact fa_q (by omega) (by omega))) ⟨by rw [g4]; show 234 + 32 ≤ B.1; omega, by rw [g4]; show 15732 + 76821 ≤ B.2.1; omega⟩ (fun h4 q4 w4 => ?_)
  obtain ⟨q4, s6⟩ := q4
  have g5 : h4.1 = Bm 0 L := by rw [w4, g4]; rfl
  have o4 : ∀ f q, ¬ (233 ≤ f ∧ f ≤ 265 ∧ q = 0) → Sm h2 h4 f q := fun f q w => (o1 f q (by omega)).tr (q4.1 f q (by omega))
  have mk : MkA h4 := by
    refine ⟨by rw [g5]; rfl, Rf_eq (o4 1 0 (by omega)).2.2 a3, Rf_eq (o4 7 0 (by omega)).2.2 a5, Rf_eq (o4 8 0 (by omega)).2.2 a6, fun q hq => ?_, Rf_eq (o4 225 0 (by omega)).2.2 a8, Rf_eq (o4 229 0 (by omega)).2.2 a9, Rf_of q4 (by decide)⟩
    obtain ⟨t1, t2, t3, t4, -⟩ := a7 q hq
    exact ⟨Rf_eq (o4 21 q (by omega)).2.2 t1, Rf_eq (o4 32 q (by omega)).2.2 t2, by rw [(o4 18 0 (by omega)).2.2]; exact t3, by rw [(o4 19 0 (by omega)).2.2]; exact t4⟩
  have z5 : Zr h4 := q4.2.1 z4
  refine Sat_re (MkA_re mk) (K (fill h4) ⟨fill_fill h4, g5, InC_fill (InC_0 z5 (fun q hq => ?_) (fun k => ?_)), InM_0 (h := h4) z5 s6, fun k => ?_⟩)
  · rw [(o4 21 q (by omega)).1]; exact (a7 q hq).2.2.2.2
  · rw [(o4 3 0 (by omega)).2.2]; exact a4 k
  · show hI h4 0 0 k = xs k
    rw [(o4 0 0 (by omega)).1, (a2 0 0 (Or.inl rfl)).1]
    exact s1 k
theorem law_sat : LawSat := by
  intro L xs hL
  obtain ⟨mf, f1, f2, f3⟩ := lp_all (L := L) (xs := xs) (Q := fun r _ => r = some (vi 1)) hL (fun h => rfl) 512 0 (by omega) (by omega) 0 0 (fun _ => 0) [] x0 (by omega)
  refine ⟨Bm mf L, ?_, ?_, Sat_up (d := 36) (by omega) (s_start (Bm_le L f1) (fun h lw => f3 h InP_0 lw))⟩
  · show 266 + 10 * mf ≤ 600001
    omega
  · show 92553 + 2111 * mf ≤ 7302250
    omega
