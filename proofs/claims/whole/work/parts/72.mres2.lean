/-! the model: resolve's loop, its body -/
section
variable {σ : Hp} {P : Nat → List Line} {X : Nat → XA} {rs : List (Pl × Pl)} {Q : Option AV → Hp → Prop} {d : Nat} {p l : Nat} {m o : Int32} {x0 : Pl}
theorem TrsM_fr {S : Nat → Nat → Prop} {h : Hp} (f : FrM S σ h) (n : ∀ k, ¬ S 235 k) (k : TrsM σ rs) : TrsM h rs := by
  have e : hI h 235 0 = hI σ 235 0 := f.fam n 0
  unfold TrsM TrM at k ⊢
  rw [e]
  exact k
theorem EnsM_fr {S : Nat → Nat → Prop} {h : Hp} {es : List En} (f : FrM S σ h) (n : ∀ k, ¬ S 235 k) (k : EnsM σ es) : EnsM h es := by
  have e : hI h 235 0 = hI σ 235 0 := f.fam n 0
  unfold EnsM EnM at k ⊢
  rw [e]
  exact k
theorem SrcM_fm {S : Nat → Nat → Prop} {h : Hp} (f : FrM S σ h) (n : ∀ k, ¬ S 235 k) {q : Nat} {ls : List Line} (s : SrcM σ q ls) : SrcM h q ls := by
  have hT : hI h 235 0 = hI σ 235 0 := f.fam n 0
  exact ⟨s.1, s.2.1, by rw [hT]; exact s.2.2.1, by unfold TxM; rw [hT]; exact s.2.2.2⟩
set_option maxRecDepth 6000 in
/-- no redirect leads on -/
theorem s_r256 {h : Hp} {seen : List Pl} {us : List Nat} {x : Pl} (k : RmI σ h x0 rs seen us x) (hl : seen.length ≤ 169) (hs : SrcM h x.1 (P x.1)) (hq : ∀ h, RmC σ h x0 (if P x.1 = [] then 3 else 4, x, (-6), us) → Q none h) : Sat true (d + 8) 177 σ.1 Q 256 (rsL p l m o (some (vi (nI (14 * seen.length)))) none) [] h := by
  have hx : SeenM h seen.length x := k.2.2.2.1 _ _ (by rw [List.getElem?_append_right (Nat.le_refl _), Nat.sub_self]; rfl)
  have hB := k.2.2.2.2.2.2.2.2.2.1
  have f0 := k.2.2.2.2.2.2.2.2.2
  have fin : ∀ n, n < 5 → (if P x.1 = [] then 3 else 4) = n → Sat true (d + 8) 177 σ.1 Q 97 (rsL p l m o (some (vi (nI (14 * seen.length)))) none) [] (setI (setI h 233 0 36 (nI n)) 233 0 37 (-6)) := by
    intro n h5 hn
    rw [hn] at hq
    refine Sat_no 5 (s_rsEnd h5 (by simp (disch := omega) only [hI_s, hI_k, hI_f, hI_sL, hL_sI, hL_s, hL_k, hL_f]) hB (hq _ (RmC_of k hl (by simp (disch := omega) only [hI_s, hI_k, hI_f, hI_sL, hL_sI, hL_s, hL_k, hL_f]) (by simp (disch := omega) only [hI_s, hI_k, hI_f, hI_sL, hL_sI, hL_s, hL_k, hL_f]) (by simp (disch := omega) only [hI_s, hI_k, hI_f, hI_sL, hL_sI, hL_s, hL_k, hL_f]) (by simp (disch := omega) only [hI_s, hI_k, hI_f, hI_sL, hL_sI, hL_s, hL_k, hL_f]) (by simp (disch := omega) only [hI_s, hI_k, hI_f, hI_sL, hL_sI, hL_s, hL_k, hL_f]) ?_)))
    exact (f0.sI (f := 233) (Or.inr (Or.inr ⟨rfl, Or.inr (Or.inl rfl)⟩)) _).sI (f := 233) (Or.inr (Or.inr ⟨rfl, Or.inr (Or.inr rfl)⟩)) _
  refine wp_ok (cut := [97]) ma_177 rfl 15 _ _ _ _ ?_
  show (vp_in (nI (14 * seen.length)) 5600 ∧ CalI true (d + 7) 111 [vr 233 0, vi (hI h 261 0 ((nI (14 * seen.length)).toNatClampNeg))] h σ.1 (fun x2 s1 => ((x2 = 0 → Sat true (d + 8) 177 σ.1 Q 97 [some (vr 233 0), some (vi (nI p)), some (vi (nI l)), some (vi m), some (vi o), some (vi (nI (14 * seen.length))), none] [] (setI (setI s1 233 0 36 (nI 3)) 233 0 37 (-6))) ∧ (¬ x2 = 0 → Sat true (d + 8) 177 σ.1 Q 97 [some (vr 233 0), some (vi (nI p)), some (vi (nI l)), some (vi m), some (vi o), some (vi (nI (14 * seen.length))), none] [] (setI (setI s1 233 0 36 (nI 4)) 233 0 37 (-6))))))
  rw [ix (by omega), hx.1.1]
  refine ⟨inb (by omega) (by omega), cal_i (m_has (d + 6) hx.2.1 hs) hB (brI (fun g => fin 3 (by omega) ?_) (fun g => fin 4 (by omega) ?_))⟩
  · by_cases c : P x.1 = []
    · exact if_pos c
    · exact absurd c (of_decide_eq_false g)
  · exact if_neg (of_decide_eq_true g)
theorem rdV_some {x : Pl} {r : Nat × Pl} (e : rdO x rs 0 = some r) : rdV (rdO x rs 0) = nI r.1 := by rw [e]; rfl
set_option maxRecDepth 6000 in
theorem s_r162 {h : Hp} {seen : List Pl} {us : List Nat} {x : Pl} (k : RmI σ h x0 rs seen us x) (hl : seen.length ≤ 169) (hs : SrcM h x.1 (P x.1)) (hr : TrsM h rs) (hxs : x ∉ seen) (hq0 : rtNext P rs x = none → ∀ h, RmC σ h x0 (if P x.1 = [] then 3 else 4, x, (-6), us) → Q none h) (hq1 : ∀ r, rtNext P rs x = some r → ∀ h, RmI σ h x0 rs (seen ++ [x]) (us ++ [r.1]) r.2 → Sat true (d + 8) 177 σ.1 Q 97 (rsL p l m o none none) [] h) : Sat true (d + 8) 177 σ.1 Q 162 (rsL p l m o (some (vi (nI (14 * seen.length)))) none) [] h := by
  have hx : SeenM h seen.length x := k.2.2.2.1 _ _ (by rw [List.getElem?_append_right (Nat.le_refl _), Nat.sub_self]; rfl)
  have hxA : x.2 ∈ plA x0 rs := k.2.2.2.2.2.2.2.2.1 x (List.mem_append.mpr (Or.inr List.mem_cons_self))
  have hB := k.2.2.2.2.2.2.2.2.2.1
  have h35 := k.2.1
  have h12 := hr.2.1
  have tf0 := m_turnFrom (d + 5) (s := seen.length) (by omega) h35 hx hr false
  have tf1 := m_turnFrom (d + 5) (s := seen.length) (by omega) h35 hx hr true
  rw [if_neg Bool.false_ne_true, rdF_o] at tf0
  rw [if_pos rfl, rdF_o] at tf1
  refine wp_ok (cut := [97, 183]) ma_177 rfl 12 _ _ _ _ ?_
  show CalI true (d + 7) 175 [vr 233 0, vi (nI 0)] h σ.1 (fun x2 s1 => ((x2 < 0 → Sat true (d + 8) 177 σ.1 Q 183 [some (vr 233 0), some (vi (nI p)), some (vi (nI l)), some (vi m), some (vi o), some (vi (nI (14 * seen.length))), none] [] s1) ∧ (¬ x2 < 0 → CalI true (d + 7) 175 [vr 233 0, vi (nI 0)] s1 σ.1 (fun x4 s3 => CalV true (d + 7) 176 [vr 233 0, vi x4, vi (nI 0)] s3 σ.1 (fun s5 => Sat true (d + 8) 177 σ.1 Q 97 [some (vr 233 0), some (vi (nI p)), some (vi (nI l)), some (vi m), some (vi o), some (vi (nI (14 * seen.length))), none] [] s5)))))
  refine cal_i tf0 hB ?_
  rw [rdV_neg h12]
  refine ⟨fun g => ?_, fun g => ?_⟩
  · -- not from here
    have k256 : rtNext P rs x = none → Sat true (d + 8) 177 σ.1 Q 256 (rsL p l m o (some (vi (nI (14 * seen.length)))) none) [] h := fun e => s_r256 k hl hs (hq0 e)
    refine wp_ok (cut := [97, 256]) ma_177 rfl 39 _ _ _ _ ?_
    show (vp_in (nI (14 * seen.length)) 5600 ∧ CalI true (d + 7) 111 [vr 233 0, vi (hI h 261 0 ((nI (14 * seen.length)).toNatClampNeg))] h σ.1 (fun x2 s1 => ((¬ x2 = 0 → Sat true (d + 8) 177 σ.1 Q 256 [some (vr 233 0), some (vi (nI p)), some (vi (nI l)), some (vi m), some (vi o), some (vi (nI (14 * seen.length))), none] [] s1) ∧ (x2 = 0 → (vp_in ((nI (14 * seen.length)) + (nI 1)) 5600 ∧ ((¬ (hI s1 261 0 (((nI (14 * seen.length)) + (nI 1)).toNatClampNeg)) = (nI 1) → Sat true (d + 8) 177 σ.1 Q 256 [some (vr 233 0), some (vi (nI p)), some (vi (nI l)), some (vi m), some (vi o), some (vi (nI (14 * seen.length))), none] [] s1) ∧ ((hI s1 261 0 (((nI (14 * seen.length)) + (nI 1)).toNatClampNeg)) = (nI 1) → CalI true (d + 7) 175 [vr 233 0, vi (nI 1)] s1 σ.1 (fun x4 s3 => ((x4 < 0 → Sat true (d + 8) 177 σ.1 Q 256 [some (vr 233 0), some (vi (nI p)), some (vi (nI l)), some (vi m), some (vi o), some (vi (nI (14 * seen.length))), none] [] s3) ∧ (¬ x4 < 0 → CalI true (d + 7) 175 [vr 233 0, vi (nI 1)] s3 σ.1 (fun x6 s5 => CalI true (d + 7) 165 [vr 233 0, vi x6] s5 σ.1 (fun x8 s7 => (vp_in (x8 + (nI 15)) 2830 ∧ ((¬ (hI s7 235 0 ((x8 + (nI 15)).toNatClampNeg)) = 0 → CalV true (d + 7) 176 [vr 233 0, vi x6, vi (nI 0)] s7 σ.1 (fun s9 => Sat true (d + 8) 177 σ.1 Q 97 [some (vr 233 0), some (vi (nI p)), some (vi (nI l)), some (vi m), some (vi o), some (vi (nI (14 * seen.length))), some (vi x6)] [] s9)) ∧ ((hI s7 235 0 ((x8 + (nI 15)).toNatClampNeg)) = 0 → CalV true (d + 7) 176 [vr 233 0, vi x6, vi (nI 1)] s7 σ.1 (fun s10 => Sat true (d + 8) 177 σ.1 Q 97 [some (vr 233 0), some (vi (nI p)), some (vi (nI l)), some (vi m), some (vi o), some (vi (nI (14 * seen.length))), some (vi x6)] [] s10))))))))))))))))
    rw [ix (by omega), addN, ix (by omega), hx.1.1]
    refine ⟨inb (by omega) (by omega), cal_i (m_has (d + 6) hx.2.1 hs) hB (brN (fun g2 => k256 ?_) (fun g2 => ⟨inb (by omega) (by omega), ?_⟩))⟩
    · unfold rtNext
      rw [g]
      exact if_neg (of_decide_eq_true g2)
    · have he : P x.1 = [] := by
        by_cases w : P x.1 = []
        · exact w
        · exact absurd w (of_decide_eq_false g2)
      have en : rtNext P rs x = (match rdO (x.1, none) rs 0 with
        | none => none
        | some r => some (r.1, (r.2.1, if r.2.2 = none then x.2 else r.2.2))) := by
        unfold rtNext
        rw [g]
        exact if_pos he
      rw [hx.1.2.1]
      refine ⟨fun g3 => k256 ?_, fun g3 => cal_i tf1 hB ?_⟩
      · have w : txO x.2 = [] := by
          by_cases c : txO x.2 = []
          · exact c
          · rw [decide_eq_true c] at g3
            exact absurd rfl g3
        have w2 := (txO_nil hx.2.2).mp w
        have w3 : (x.1, none) = x := Prod.ext rfl w2.symm
        rw [en, w3, g]
      · rw [rdV_neg h12]
        refine ⟨fun g4 => k256 (by rw [en, g4]), fun g4 => cal_i tf1 hB ?_⟩
        cases e : rdO (x.1, none) rs 0 with
        | none => exact absurd e g4
        | some r =>
          have hz := rdO_0 (k := r.1) (y := r.2) e
          have hz2 := All_lt hz
          obtain ⟨t1, t2, t3, t4⟩ := hr.2.2 _ _ hz
          have en2 : rtNext P rs x = some (r.1, (r.2.1, if r.2.2 = none then x.2 else r.2.2)) := by rw [en, e]
          refine cal_i (m_turnAt (d + 7) h r.1) hB ?_
          have t21 : hI h 235 0 (1932 + 28 * r.1 + 15) = bI (decide (txO r.2.2 ≠ [])) := t2.2.1
          show vp_in (nI (1932 + 28 * r.1) + nI 15) 2830 ∧ _
          rw [addN, ix (by omega), t21]
          refine ⟨inb (by omega) (by omega), brN (fun g5 => ?_) (fun g5 => ?_)⟩
          · have c : r.2.2 ≠ none := fun w => of_decide_eq_true g5 (by rw [w]; rfl)
            rw [if_neg c] at en2
            refine cal_v (m_go (d + 6) (by omega) (by omega) h35 false) hB (Sat_no 5 (Sat_no 6 (hq1 _ en2 _ (RmI_go k (by omega) hxs t4 (rtNext_A en2 hxA) ?_))))
            refine RowP_mv (u := hI h 235 0) (o := 1932 + 28 * r.1 + 14) ?_ (fun k _ _ => ?_) t2
            · unfold goG
              rw [if_pos (Or.inl rfl)]
              exact t2.1
            · unfold goG
              rw [if_pos (Or.inr rfl), Nat.zero_add]
          · have c : r.2.2 = none := by
              refine (txO_nil t4.2).mp ?_
              by_cases w : txO r.2.2 = []
              · exact w
              · exact absurd w (of_decide_eq_false g5)
            rw [if_pos c] at en2
            refine cal_v (m_go (d + 6) (by omega) (by omega) h35 true) hB (Sat_no 5 (Sat_no 6 (hq1 _ en2 _ (RmI_go k (by omega) hxs ⟨t4.1, hx.2.2⟩ hxA ?_))))
            refine RowP_mv (u := hI h 261 0) (o := 14 * seen.length) ?_ (fun k a1 _ => ?_) hx.1
            · unfold goG
              rw [if_pos (Or.inl rfl)]
              exact t2.1
            · unfold goG
              rw [if_neg (fun w => by
                rcases w with w | w
                · omega
                · cases w), Nat.zero_add]
  · refine cal_i tf0 hB ?_
    cases e : rdO x rs 0 with
    | none => exact absurd e g
    | some r =>
      have hz := rdO_0 (k := r.1) (y := r.2) e
      have hz2 := All_lt hz
      obtain ⟨t1, t2, t3, t4⟩ := hr.2.2 _ _ hz
      have en2 : rtNext P rs x = some (r.1, r.2) := by unfold rtNext; rw [e]
      refine cal_v (m_go (d + 6) (by omega) (by omega) h35 false) hB (Sat_no 5 (hq1 _ en2 _ (RmI_go k (by omega) hxs t4 (rtNext_A en2 hxA) ?_)))
      refine RowP_mv (u := hI h 235 0) (o := 1932 + 28 * r.1 + 14) ?_ (fun k _ _ => ?_) t2
      · unfold goG
        rw [if_pos (Or.inl rfl)]
        exact t2.1
      · unfold goG
        rw [if_pos (Or.inr rfl), Nat.zero_add]
end
