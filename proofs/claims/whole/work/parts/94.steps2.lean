/-! the class's Mender: stepsTo -/
def S231 (f _ : Nat) : Prop := f = 231 ∨ f = 232
theorem wrT_at (σ : Hp) (f : Nat) (w : List Nat) {k : Nat} (h : k < w.length) : hI (wrT σ f 0 w) f 0 k = nI (w.getD k 0) := by
  unfold wrT
  rw [hI_a]
  show (if 0 ≤ k ∧ k < 0 + w.length then _ else _) = _
  rw [if_pos (by omega), Nat.sub_zero]
section
variable {σ : Hp}
set_option maxRecDepth 6000 in
theorem e_stepsTo (d : Nat) {a b : Anc} (ga : gAnc a) (gb : gAnc b) {lim : Nat} (hlim : lim ≤ 1000) (h5 : hL σ 229 0 5 = lN (anC a)) (h7 : hI σ 229 0 7 = nI (txAnc a).length) (t0 : ∀ k, k < (txAnc a).length → hI σ 230 0 k = nI ((txAnc a).getD k 0)) : PI (d + 2) 19 [vr 229 0, vl (lN (anC b)), vi (nI lim)] σ (nI (stF (txAnc a) (txAnc b) lim)) (fun h => Fr S231 σ h) := by
  refine PI_of mt_19 (Nat.le_of_ble_eq_true rfl) fun Q hq => ?_
  have la := txAnc_le2 ga
  have lb := txAnc_le2 gb
  have ca := txAnc_lt ga
  have cb := txAnc_lt gb
  have hin : lN (anC b) = lN (anC a) ↔ b = a := by
    have := lO_inj (a := some b) (b := some a) (fun x hx => by cases hx; exact gb) (fun x hx => by cases hx; exact ga)
    exact this.trans ⟨fun e => Option.some.inj e, fun e => by rw [e]⟩
  have sp := e_spell231 d σ (o := some b) (fun x hx => by cases hx; exact gb) (b := 0) (by show 0 + (txAnc b).length ≤ 11; omega)
  have f1 : Fr S231 σ (wrT σ 231 0 (txAnc b)) := Fr_wr (Fr.rfl' S231 σ) (Or.inl rfl)
  -- the lines of the table
  have lines : ∀ (n i : Nat) (h : Hp), i + 1 + n = (txAnc a).length + 1 → Fr S231 σ h → (∀ k, k < (txAnc b).length → hI h 231 0 k = nI ((txAnc b).getD k 0)) → (∀ j, j ≤ (txAnc b).length → hI h 232 0 j = nI (dR (txAnc a) (txAnc b) i j)) → (∀ h, Fr S231 σ h → Q (some (vi (nI (stL (txAnc a) (txAnc b) lim n (i + 1))))) h) → Sat true (d + 2) 19 σ.1 Q 73 [some (vr 229 0), some (vl (lN (anC b))), none, some (vi (nI lim)), some (vi (nI (txAnc b).length)), some (vi (nI (i + 1)))] [] h := by
    intro n
    induction n with
    | zero =>
      intro i h hi f k1 k2 kq
      have hi : i = (txAnc a).length := by omega
      subst hi
      have e7 : hI h 229 0 7 = nI (txAnc a).length := by rw [(f.2 229 0 (fun w => by rcases w with w | w <;> omega)).1]; exact h7
      have kq := kq h f
      refine wp_ok (cut := [48, 73]) ma_19 rfl 12 _ _ _ _ ?_
      show (((hI h 229 0 7) < (nI ((txAnc a).length + 1)) → (vp_in (nI (txAnc b).length) 12 ∧ (Q (some (vi (hI h 232 0 ((nI (txAnc b).length).toNatClampNeg)))) h ∧ h.1 = σ.1))) ∧ (¬ (hI h 229 0 7) < (nI ((txAnc a).length + 1)) → CalI true (d + 1) 20 [vr 229 0, vi (nI ((txAnc a).length + 1)), vi (nI (txAnc b).length)] h σ.1 (fun x2 s1 => ((x2 < (nI lim) → Sat true (d + 2) 19 σ.1 Q 73 [some (vr 229 0), some (vl (lN (anC b))), none, some (vi (nI lim)), some (vi (nI (txAnc b).length)), some (vi ((nI ((txAnc a).length + 1)) + nI 1))] [] s1) ∧ (¬ x2 < (nI lim) → (Q (some (vi (nI lim))) s1 ∧ s1.1 = σ.1))))))
      rw [e7, ix (by omega), k2 _ (Nat.le_refl _)]
      exact br_lt (by omega) (by omega) (fun _ => ⟨inb (by omega) (by omega), kq, f.1⟩) (fun g => by omega)
    | succ n ih =>
      intro i h hi f k1 k2 kq
      have e7 : hI h 229 0 7 = nI (txAnc a).length := by rw [(f.2 229 0 (fun w => by rcases w with w | w <;> omega)).1]; exact h7
      have e230 : hI h 230 0 = hI σ 230 0 := (f.2 230 0 (fun w => by rcases w with w | w <;> omega)).1
      have fr := e_fillRow (σ := h) (w := txAnc a) (v := txAnc b) d (by omega) (by omega) ca cb (by rw [e230]; exact t0) k1 (i := i) (by omega) k2
      have d5 : lsF (dR (txAnc a) (txAnc b) (i + 1)) (txAnc b).length ≤ 22 := by
        have := lsF_le (dR (txAnc a) (txAnc b) (i + 1)) (txAnc b).length 0 (Nat.zero_le _)
        rw [dR_0] at this
        omega
      unfold stL at kq
      refine wp_ok (cut := [48, 73]) ma_19 rfl 12 _ _ _ _ ?_
      show (((hI h 229 0 7) < (nI (i + 1)) → (vp_in (nI (txAnc b).length) 12 ∧ (Q (some (vi (hI h 232 0 ((nI (txAnc b).length).toNatClampNeg)))) h ∧ h.1 = σ.1))) ∧ (¬ (hI h 229 0 7) < (nI (i + 1)) → CalI true (d + 1) 20 [vr 229 0, vi (nI (i + 1)), vi (nI (txAnc b).length)] h σ.1 (fun x2 s1 => ((x2 < (nI lim) → Sat true (d + 2) 19 σ.1 Q 73 [some (vr 229 0), some (vl (lN (anC b))), none, some (vi (nI lim)), some (vi (nI (txAnc b).length)), some (vi ((nI (i + 1)) + nI 1))] [] s1) ∧ (¬ x2 < (nI lim) → (Q (some (vi (nI lim))) s1 ∧ s1.1 = σ.1))))))
      rw [e7, addN]
      refine br_lt (by omega) (by omega) (fun g => by omega) (fun _ => cp_i fr f.1 (fun h1 q1 e1 => br_lt (by omega) (by omega) (fun g => ?_) (fun g => ?_)))
      · rw [if_neg (by omega)] at kq
        have f2 : Fr S231 σ h1 := f.tr (q1.2.mo fun g _ w => Or.inr w)
        refine ih (i + 1) h1 (by omega) f2 (fun k hk => ?_) q1.1 kq
        rw [(q1.2.2 231 0 (fun w => by have w : 231 = 232 := w; omega)).1]
        exact k1 k hk
      · rw [if_pos g] at kq
        exact ⟨kq h1 (f.tr (q1.2.mo fun g _ w => Or.inr w)), e1⟩
  have fill : ∀ (n j : Nat) (h : Hp), j + n = (txAnc b).length + 1 → Fr S231 σ h → (∀ k, k < (txAnc b).length → hI h 231 0 k = nI ((txAnc b).getD k 0)) → (∀ x, x < j → hI h 232 0 x = nI x) → (∀ h, Fr S231 σ h → Q (some (vi (nI (stL (txAnc a) (txAnc b) lim (txAnc a).length 1)))) h) → Sat true (d + 2) 19 σ.1 Q 48 [some (vr 229 0), some (vl (lN (anC b))), none, some (vi (nI lim)), some (vi (nI (txAnc b).length)), some (vi (nI j))] [] h := by
    intro n
    induction n with
    | zero =>
      intro j h hj f k1 k2 kq
      refine wp_ok (cut := [48, 73]) ma_19 rfl 10 _ _ _ _ ?_
      show (((nI (txAnc b).length) < (nI j) → Sat true (d + 2) 19 σ.1 Q 73 [some (vr 229 0), some (vl (lN (anC b))), none, some (vi (nI lim)), some (vi (nI (txAnc b).length)), some (vi (nI 1))] [] h) ∧ (¬ (nI (txAnc b).length) < (nI j) → (vp_in (nI j) 12 ∧ Sat true (d + 2) 19 σ.1 Q 48 [some (vr 229 0), some (vl (lN (anC b))), none, some (vi (nI lim)), some (vi (nI (txAnc b).length)), some (vi ((nI j) + nI 1))] [] (setI h 232 0 ((nI j).toNatClampNeg) (nI j)))))
      exact br_lt (by omega) (by omega) (fun _ => lines (txAnc a).length 0 h (by omega) f k1 (fun x hx => k2 x (by omega)) kq) (fun g => by omega)
    | succ n ih =>
      intro j h hj f k1 k2 kq
      refine wp_ok (cut := [48, 73]) ma_19 rfl 10 _ _ _ _ ?_
      show (((nI (txAnc b).length) < (nI j) → Sat true (d + 2) 19 σ.1 Q 73 [some (vr 229 0), some (vl (lN (anC b))), none, some (vi (nI lim)), some (vi (nI (txAnc b).length)), some (vi (nI 1))] [] h) ∧ (¬ (nI (txAnc b).length) < (nI j) → (vp_in (nI j) 12 ∧ Sat true (d + 2) 19 σ.1 Q 48 [some (vr 229 0), some (vl (lN (anC b))), none, some (vi (nI lim)), some (vi (nI (txAnc b).length)), some (vi ((nI j) + nI 1))] [] (setI h 232 0 ((nI j).toNatClampNeg) (nI j)))))
      rw [ix (by omega), addN]
      refine br_lt (by omega) (by omega) (fun g => by omega) (fun _ => ⟨inb (by omega) (by omega), ih (j + 1) _ (by omega) (f.sI (f := 232) (Or.inr rfl) _ _) (fun k hk => by simp (disch := omega) only [hI_s, hI_k, hI_f, hI_sL, hL_sI, hL_s, hL_k, hL_f]; exact k1 k hk) (fun x hx => ?_) kq⟩)
      by_cases c : x = j
      · rw [c, hI_s]
      · rw [hI_k _ _ _ _ c]
        exact k2 x (by omega)
  unfold stF at hq
  refine wp_ok (cut := [48]) ma_19 rfl 23 _ _ _ _ ?_
  show ((¬ (lg_cmp (lN (anC b)) (hL σ 229 0 5)) = 0 → (((nI 1) < (nI lim) → CalI true (d + 1) 5 [vl (lN (anC b)), vr 231 0, vi (nI 0)] σ σ.1 (fun x2 s1 => (s1.1.1 ≤ σ.1.1 ∧ s1.1.2.1 ≤ σ.1.2.1 ∧ (((if 0 ≤ (hI s1 229 0 7) - x2 then (hI s1 229 0 7) - x2 else 0 - ((hI s1 229 0 7) - x2)) < (nI lim) → Sat true (d + 2) 19 σ.1 Q 48 [some (vr 229 0), some (vl (lN (anC b))), none, some (vi (nI lim)), some (vi x2), some (vi (nI 0))] [] s1) ∧ (¬ (if 0 ≤ (hI s1 229 0 7) - x2 then (hI s1 229 0 7) - x2 else 0 - ((hI s1 229 0 7) - x2)) < (nI lim) → (Q (some (vi (nI lim))) s1 ∧ s1.1 = σ.1)))))) ∧ (¬ (nI 1) < (nI lim) → (Q (some (vi (nI lim))) σ ∧ σ.1 = σ.1)))) ∧ ((lg_cmp (lN (anC b)) (hL σ 229 0 5)) = 0 → (Q (some (vi (nI 0))) σ ∧ σ.1 = σ.1)))
  rw [h5, lg_cmp_eq, hin]
  refine ⟨fun g => br_lt (by omega) (by omega) (fun g2 => cal_i sp rfl ?_) (fun g2 => ?_), fun g => ?_⟩
  · have ne : ¬ txAnc a = txAnc b := fun e => g ((txAnc_inj ga gb).mp e).symm
    rw [if_neg ne, if_neg (by omega)] at hq
    have e7 : hI (wrT σ 231 0 (txAnc b)) 229 0 7 = nI (txAnc a).length := by rw [(f1.2 229 0 (fun w => by rcases w with w | w <;> omega)).1]; exact h7
    show _ ∧ _ ∧ (((if 0 ≤ hI (wrT σ 231 0 (txAnc b)) 229 0 7 - nI (txAnc b).length then hI (wrT σ 231 0 (txAnc b)) 229 0 7 - nI (txAnc b).length else 0 - (hI (wrT σ 231 0 (txAnc b)) 229 0 7 - nI (txAnc b).length)) < nI lim → _) ∧ (¬ (if 0 ≤ hI (wrT σ 231 0 (txAnc b)) 229 0 7 - nI (txAnc b).length then hI (wrT σ 231 0 (txAnc b)) 229 0 7 - nI (txAnc b).length else 0 - (hI (wrT σ 231 0 (txAnc b)) 229 0 7 - nI (txAnc b).length)) < nI lim → _))
    rw [e7, absN (by omega) (by omega)]
    refine ⟨Nat.le_refl _, Nat.le_refl _, br_lt (by omega) (by omega) (fun g3 => ?_) (fun g3 => ?_)⟩
    · rw [if_neg (by omega)] at hq
      exact fill ((txAnc b).length + 1) 0 _ (by omega) f1 (fun k hk => wrT_at σ 231 (txAnc b) hk) (fun x hx => absurd hx (Nat.not_lt_zero _)) hq
    · rw [if_pos (by omega)] at hq
      exact ⟨hq _ f1, rfl⟩
  · have ne : ¬ txAnc a = txAnc b := fun e => g ((txAnc_inj ga gb).mp e).symm
    rw [if_neg ne, if_pos (by omega)] at hq
    exact ⟨hq σ (Fr.rfl' _ _), rfl⟩
  · rw [if_pos (by rw [g])] at hq
    exact ⟨hq σ (Fr.rfl' _ _), rfl⟩
end
