/-! the model: isGood, turnFrom, go -/
section
variable {σ : Hp} {P : Nat → List Line} {X : Nat → XA} {rs : List (Pl × Pl)}
theorem m_isGood (d : Nat) {x : Pl} {s : Nat} (hs : s ≤ 390) (h35 : hI σ 233 0 35 = nI s) (hx : SeenM σ s x) (hsr : SrcM σ x.1 (P x.1)) (hl : (X x.1).2.2.1.length ≤ 100) (h1 : hI σ 241 0 x.1 = nI (X x.1).2.2.1.length) (ha : All (X x.1).2.2.1 (HedM σ x.1 (X x.1).2.2.1)) : EI (d + 2) 174 [vr 233 0] σ (bI (rtGood P X x)) (setI σ 233 0 37 (if P x.1 = [] then (-6) else rtHd X x)) := by
  refine EI_of mt_174 (Nat.le_of_ble_eq_true rfl) fun Q hq => ?_
  have gx := hx.2
  have x1 := gx.1
  have r0 : hI σ 261 0 (14 * s) = nI x.1 := hx.1.1
  have r1 : hI (setI σ 233 0 37 (-6)) 261 0 (14 * s + 1) = bI (decide (txO x.2 ≠ [])) := by
    simp (disch := omega) only [hI_s, hI_k, hI_f, hI_sL, hL_sI, hL_s, hL_k, hL_f]
    exact hx.1.2.1
  have hh := m_has d (σ := setI σ 233 0 37 (-6)) gx.1 (ls := P x.1) ⟨hsr.1, hsr.2.1, by simp (disch := omega) only [hI_s, hI_k, hI_f, hI_sL, hL_sI, hL_s, hL_k, hL_f]; exact hsr.2.2.1, by unfold TxM; simp (disch := omega) only [hI_s, hI_k, hI_f, hI_sL, hL_sI, hL_s, hL_k, hL_f]; exact hsr.2.2.2⟩
  refine wp_ok (cut := []) ma_174 rfl 40 _ _ _ _ ?_
  show (vp_in ((nI 14) * (hI σ 233 0 35)) 5600 ∧ CalI true (d + 1) 111 [vr 233 0, vi (hI σ 261 0 (((nI 14) * (hI σ 233 0 35)).toNatClampNeg))] (setI σ 233 0 37 (-6)) σ.1 (fun x2 s1 => ((¬ x2 = 0 → (vp_in (((nI 14) * (hI σ 233 0 35)) + (nI 1)) 5600 ∧ ((¬ (hI s1 261 0 ((((nI 14) * (hI σ 233 0 35)) + (nI 1)).toNatClampNeg)) = 0 → CalI true (d + 1) 172 [vr 233 0, vi (hI σ 261 0 (((nI 14) * (hI σ 233 0 35)).toNatClampNeg)), vr 261 0, vi (((nI 14) * (hI σ 233 0 35)) + (nI 2))] s1 σ.1 (fun x4 s3 => ((x4 < 0 → (((nI 0) = 0 ∨ (nI 0) = 1) ∧ (Q (some (vi (nI 0))) (setI s3 233 0 37 x4) ∧ s3.1 = σ.1))) ∧ (¬ x4 < 0 → (((nI 1) = 0 ∨ (nI 1) = 1) ∧ (Q (some (vi (nI 1))) (setI s3 233 0 37 x4) ∧ s3.1 = σ.1)))))) ∧ ((hI s1 261 0 ((((nI 14) * (hI σ 233 0 35)) + (nI 1)).toNatClampNeg)) = 0 → (((nI 1) = 0 ∨ (nI 1) = 1) ∧ (Q (some (vi (nI 1))) s1 ∧ s1.1 = σ.1)))))) ∧ (x2 = 0 → (((nI 0) = 0 ∨ (nI 0) = 1) ∧ (Q (some (vi (nI 0))) s1 ∧ s1.1 = σ.1))))))
  rw [h35, mulN, addN, addN, ix (by omega), ix (by omega), r0]
  refine ⟨inb (by omega) (by omega), cal_i hh rfl (brN (fun g => ⟨inb (by omega) (by omega), ?_⟩) (fun g => ?_))⟩
  · have hne : P x.1 ≠ [] := of_decide_eq_true g
    rw [r1]
    obtain ⟨pg, an⟩ := x
    cases an with
    | none =>
      have e1 : rtGood P X (pg, none) = true := by
        show (decide (P pg ≠ []) && true) = true
        rw [decide_eq_true hne]
        rfl
      rw [e1, if_neg hne] at hq
      exact ⟨fun w => absurd rfl w, fun _ => ⟨Or.inr rfl, hq, rfl⟩⟩
    | some a =>
      have e1 : rtGood P X (pg, some a) = decide (hdW a (X pg).2.2.1 0 ≠ (-6)) := by
        show (decide (P pg ≠ []) && _) = _
        rw [decide_eq_true hne, Bool.true_and]
      rw [e1, if_neg hne] at hq
      have tn : txO (some a) ≠ [] := fun w => by have := (txO_nil gx.2).mp w; cases this
      rw [decide_eq_true tn]
      have hw := m_headingWith (σ := setI σ 233 0 37 (-6)) d (p := pg) (o := 14 * s + 2) (hs := (X pg).2.2.1) (a := a) gx.1 (by omega) hl (by simp (disch := omega) only [hI_s, hI_k, hI_f, hI_sL, hL_sI, hL_s, hL_k, hL_f]; exact h1) (All_mo ha fun j y _ q => HedM_cong (by simp (disch := omega) only [hI_s, hI_k, hI_f, hI_sL, hL_sI, hL_s, hL_k, hL_f]) (by simp (disch := omega) only [hI_s, hI_k, hI_f, hI_sL, hL_sI, hL_s, hL_k, hL_f]) (fun k _ _ => by simp (disch := omega) only [hI_s, hI_k, hI_f, hI_sL, hL_sI, hL_s, hL_k, hL_f]) (by simp (disch := omega) only [hI_s, hI_k, hI_f, hI_sL, hL_sI, hL_s, hL_k, hL_f]) (fun k _ => by simp (disch := omega) only [hI_s, hI_k, hI_f, hI_sL, hL_sI, hL_s, hL_k, hL_f]) q) (gx.2 a rfl) (by simp (disch := omega) only [hI_s, hI_k, hI_f, hI_sL, hL_sI, hL_s, hL_k, hL_f]; exact hx.1.2.2)
      refine b_t' (cal_i hw rfl ?_)
      rw [hdW_neg hl, setI_setI]
      refine ⟨fun w => ?_, fun w => ?_⟩
      · rw [decide_eq_false (fun q => q w)] at hq
        exact ⟨Or.inl rfl, hq, rfl⟩
      · rw [decide_eq_true w] at hq
        exact ⟨Or.inr rfl, hq, rfl⟩
  · have he : P x.1 = [] := by
      by_cases w : P x.1 = []
      · exact w
      · exact absurd w (of_decide_eq_false g)
    have e1 : rtGood P X x = false := by
      unfold rtGood
      rw [decide_eq_false (fun w => w he), Bool.false_and]
    rw [e1, if_pos he] at hq
    exact ⟨Or.inl rfl, hq, rfl⟩
theorem m_turnFrom (d : Nat) {x : Pl} {s : Nat} (hs : s ≤ 390) (h35 : hI σ 233 0 35 = nI s) (hx : SeenM σ s x) (hr : TrsM σ rs) (b : Bool) : EI (d + 2) 175 [vr 233 0, vi (bI b)] σ (rdF (if b = true then (x.1, none) else x) rs 0) σ := by
  obtain ⟨q1, q2, q3⟩ := hr
  have loop : ∀ (t a : List (Pl × Pl)), rs = a ++ t → ∀ Q : Option AV → Hp → Prop, Q (some (vi (rdF (if b = true then (x.1, none) else x) t a.length))) σ → Sat true (d + 2) 175 σ.1 Q 10 [some (vr 233 0), some (vi (bI b)), some (vi (nI (14 * s))), some (vi (nI a.length)), none] [] σ := by
    intro t
    induction t with
    | nil =>
      intro a e Q hq
      rw [List.append_nil] at e
      refine wp_ok (cut := [10]) ma_175 rfl 33 _ _ _ _ ?_
      show CalI true (d + 1) 166 [vr 233 0] σ σ.1 (fun x2 s1 => ((x2 ≤ (nI a.length) → (Q (some (vi (-6))) s1 ∧ s1.1 = σ.1)) ∧ (¬ x2 ≤ (nI a.length) → (((bI b) = 0 → CalI true (d + 1) 165 [vr 233 0, vi (nI a.length)] s1 σ.1 (fun x4 s3 => CalI true (d + 1) 167 [vr 233 0, vr 235 0, vi x4, vr 261 0, vi (nI (14 * s))] s3 σ.1 (fun x6 s5 => ((x6 = 0 → Sat true (d + 2) 175 σ.1 Q 10 [some (vr 233 0), some (vi (bI b)), some (vi (nI (14 * s))), some (vi ((nI a.length) + nI 1)), some (vi x6)] [] s5) ∧ (¬ x6 = 0 → (Q (some (vi (nI a.length))) s5 ∧ s5.1 = σ.1)))))) ∧ (¬ (bI b) = 0 → CalI true (d + 1) 165 [vr 233 0, vi (nI a.length)] s1 σ.1 (fun x8 s7 => (vp_in x8 2830 ∧ (vp_in (nI (14 * s)) 5600 ∧ ((¬ (hI s7 235 0 x8.toNatClampNeg) = (hI s7 261 0 ((nI (14 * s)).toNatClampNeg)) → (((nI 0) = 0 → Sat true (d + 2) 175 σ.1 Q 10 [some (vr 233 0), some (vi (bI b)), some (vi (nI (14 * s))), some (vi ((nI a.length) + nI 1)), some (vi (nI 0))] [] s7) ∧ (¬ (nI 0) = 0 → (Q (some (vi (nI a.length))) s7 ∧ s7.1 = σ.1)))) ∧ ((hI s7 235 0 x8.toNatClampNeg) = (hI s7 261 0 ((nI (14 * s)).toNatClampNeg)) → CalI true (d + 1) 165 [vr 233 0, vi (nI a.length)] s7 σ.1 (fun x10 s9 => (vp_in (x10 + (nI 1)) 2830 ∧ ((¬ (hI s9 235 0 ((x10 + (nI 1)).toNatClampNeg)) = 0 → (((nI 0) = 0 → Sat true (d + 2) 175 σ.1 Q 10 [some (vr 233 0), some (vi (bI b)), some (vi (nI (14 * s))), some (vi ((nI a.length) + nI 1)), some (vi (nI 0))] [] s9) ∧ (¬ (nI 0) = 0 → (Q (some (vi (nI a.length))) s9 ∧ s9.1 = σ.1)))) ∧ ((hI s9 235 0 ((x10 + (nI 1)).toNatClampNeg)) = 0 → (((nI 1) = 0 → Sat true (d + 2) 175 σ.1 Q 10 [some (vr 233 0), some (vi (bI b)), some (vi (nI (14 * s))), some (vi ((nI a.length) + nI 1)), some (vi (nI 1))] [] s9) ∧ (¬ (nI 1) = 0 → (Q (some (vi (nI a.length))) s9 ∧ s9.1 = σ.1)))))))))))))))))
      refine cal_i (m_turns (d + 1) q1) rfl ?_
      rw [← e]
      exact ⟨fun _ => ⟨hq, rfl⟩, fun g => absurd (Int32.le_refl _) g⟩
    | cons y t ih =>
      intro a e Q hq
      have hlen : rs.length = a.length + (t.length + 1) := by rw [e, List.length_append, List.length_cons]
      have hy : TrM σ a.length y := q3 a.length y (by rw [e, List.getElem?_append_right (Nat.le_refl _), Nat.sub_self]; rfl)
      obtain ⟨y1, y2, y3, y4⟩ := hy
      have gx := hx.2
      have x1 := gx.1
      have z1 := y3.1
      unfold rdF at hq
      have nx : y.1 ≠ (if b = true then (x.1, none) else x) → Sat true (d + 2) 175 σ.1 Q 10 [some (vr 233 0), some (vi (bI b)), some (vi (nI (14 * s))), some (vi (nI (a.length + 1))), none] [] σ := by
        intro g
        rw [if_neg g] at hq
        have := ih (a ++ [y]) (by rw [e, List.append_assoc]; rfl) Q (by rw [List.length_append]; exact hq)
        rw [List.length_append] at this
        exact this
      have ys : y.1 = (if b = true then (x.1, none) else x) → Q (some (vi (nI a.length))) σ := by
        intro g
        rw [if_pos g] at hq
        exact hq
      have sp := m_sameP235_261 (σ := σ) d (i := 1932 + 28 * a.length) (j := 14 * s) (by omega) (by omega) y3.1 gx.1 (txO_len y3.2) (txO_len gx.2) (txO_lt y3.2) (txO_lt gx.2) y1 hx.1
      refine wp_ok (cut := [10]) ma_175 rfl 33 _ _ _ _ ?_
      show CalI true (d + 1) 166 [vr 233 0] σ σ.1 (fun x2 s1 => ((x2 ≤ (nI a.length) → (Q (some (vi (-6))) s1 ∧ s1.1 = σ.1)) ∧ (¬ x2 ≤ (nI a.length) → (((bI b) = 0 → CalI true (d + 1) 165 [vr 233 0, vi (nI a.length)] s1 σ.1 (fun x4 s3 => CalI true (d + 1) 167 [vr 233 0, vr 235 0, vi x4, vr 261 0, vi (nI (14 * s))] s3 σ.1 (fun x6 s5 => ((x6 = 0 → Sat true (d + 2) 175 σ.1 Q 10 [some (vr 233 0), some (vi (bI b)), some (vi (nI (14 * s))), some (vi ((nI a.length) + nI 1)), some (vi x6)] [] s5) ∧ (¬ x6 = 0 → (Q (some (vi (nI a.length))) s5 ∧ s5.1 = σ.1)))))) ∧ (¬ (bI b) = 0 → CalI true (d + 1) 165 [vr 233 0, vi (nI a.length)] s1 σ.1 (fun x8 s7 => (vp_in x8 2830 ∧ (vp_in (nI (14 * s)) 5600 ∧ ((¬ (hI s7 235 0 x8.toNatClampNeg) = (hI s7 261 0 ((nI (14 * s)).toNatClampNeg)) → (((nI 0) = 0 → Sat true (d + 2) 175 σ.1 Q 10 [some (vr 233 0), some (vi (bI b)), some (vi (nI (14 * s))), some (vi ((nI a.length) + nI 1)), some (vi (nI 0))] [] s7) ∧ (¬ (nI 0) = 0 → (Q (some (vi (nI a.length))) s7 ∧ s7.1 = σ.1)))) ∧ ((hI s7 235 0 x8.toNatClampNeg) = (hI s7 261 0 ((nI (14 * s)).toNatClampNeg)) → CalI true (d + 1) 165 [vr 233 0, vi (nI a.length)] s7 σ.1 (fun x10 s9 => (vp_in (x10 + (nI 1)) 2830 ∧ ((¬ (hI s9 235 0 ((x10 + (nI 1)).toNatClampNeg)) = 0 → (((nI 0) = 0 → Sat true (d + 2) 175 σ.1 Q 10 [some (vr 233 0), some (vi (bI b)), some (vi (nI (14 * s))), some (vi ((nI a.length) + nI 1)), some (vi (nI 0))] [] s9) ∧ (¬ (nI 0) = 0 → (Q (some (vi (nI a.length))) s9 ∧ s9.1 = σ.1)))) ∧ ((hI s9 235 0 ((x10 + (nI 1)).toNatClampNeg)) = 0 → (((nI 1) = 0 → Sat true (d + 2) 175 σ.1 Q 10 [some (vr 233 0), some (vi (bI b)), some (vi (nI (14 * s))), some (vi ((nI a.length) + nI 1)), some (vi (nI 1))] [] s9) ∧ (¬ (nI 1) = 0 → (Q (some (vi (nI a.length))) s9 ∧ s9.1 = σ.1)))))))))))))))))
      refine cal_i (m_turns (d + 1) q1) rfl (br_le (by omega) (by omega) (fun g => by omega) (fun _ => ?_))
      rw [addN]
      refine brI (fun g => ?_) (fun g => ?_)
      · rw [if_neg (by rw [g]; exact Bool.false_ne_true)] at nx ys
        refine cal_i (m_turnAt (d + 1) σ a.length) rfl (cal_i sp rfl (brI (fun g2 => ?_) (fun g2 => ?_)))
        · exact Sat_no 4 (nx fun w => of_decide_eq_false g2 (by rw [w]; exact ⟨rfl, rfl⟩))
        · have w := of_decide_eq_true g2
          exact ⟨ys (Prod.ext w.1 ((txO_inj y3.2 gx.2).mp w.2)), rfl⟩
      · rw [if_pos g] at nx ys
        refine cal_i (m_turnAt (d + 1) σ a.length) rfl ?_
        rw [ix (by omega), ix (by omega), y1.1, hx.1.1]
        refine ⟨inb (by omega) (by omega), inb (by omega) (by omega), br_ne (by omega) (by omega) (fun g2 => ⟨fun _ => Sat_no 4 (nx fun w => g2 (by rw [w])), fun w => absurd rfl w⟩) (fun g2 => cal_i (m_turnAt (d + 1) σ a.length) rfl ?_)⟩
        rw [addN, ix (by omega), y1.2.1]
        refine ⟨inb (by omega) (by omega), brN (fun g3 => ⟨fun _ => Sat_no 4 (nx fun w => ?_), fun w => absurd rfl w⟩) (fun g3 => ⟨fun w => absurd w (by decide), fun _ => ⟨ys ?_, rfl⟩⟩)⟩
        · refine of_decide_eq_true g3 ?_
          rw [w]
          rfl
        · refine Prod.ext g2 ?_
          show y.1.2 = none
          refine (txO_nil y3.2).mp ?_
          by_cases c : txO y.1.2 = []
          · exact c
          · exact absurd c (of_decide_eq_false g3)
  refine EI_of mt_175 (Nat.le_of_ble_eq_true rfl) fun Q hq => ?_
  refine wp_ok (cut := [10]) ma_175 rfl 7 _ _ _ _ ?_
  show Sat true (d + 2) 175 σ.1 Q 10 [some (vr 233 0), some (vi (bI b)), some (vi ((nI 14) * (hI σ 233 0 35))), some (vi (nI 0)), none] [] σ
  rw [h35, mulN]
  exact loop rs [] rfl Q hq
end
