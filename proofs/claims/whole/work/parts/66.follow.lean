/-! the class's Route.follow, usesOf -/
def RtI (σ h : Hp) (seen : List Pl) (us : List Nat) (x : Pl) : Prop := hI h 225 0 1 = nI 2 ∧ hI h 225 0 2 = nI x.1 ∧ hL h 225 0 3 = lN (anO x.2) ∧ hI h 225 0 4 = (-6) ∧ hI h 225 0 5 = nI seen.length ∧ us.length = seen.length ∧ All seen (SeenC h) ∧ All us (fun j r => hI h 228 0 j = nI r) ∧ gPl x ∧ Fr RF σ h
/-- what is told of a way -/
def RtC (h : Hp) (r : Rs) : Prop := hI h 225 0 1 = nI r.1 ∧ hI h 225 0 2 = nI r.2.1.1 ∧ hL h 225 0 3 = lN (anO r.2.1.2) ∧ hI h 225 0 4 = r.2.2.1 ∧ hI h 225 0 5 = nI r.2.2.2.length ∧ All r.2.2.2 (fun j u => hI h 228 0 j = nI u) ∧ r.2.2.2.length ≤ 169 ∧ gPl r.2.1
theorem SrcC_fr {S : Nat → Nat → Prop} {σ h : Hp} {j p : Nat} {ls : List Line} (f : Fr S σ h) (n9 : ¬ S 9 j) (n10 : ¬ S 10 j) (k : SrcC σ j p ls) : SrcC h j p ls := ⟨k.1, k.2.1, by rw [(f.2 10 j n10).1]; exact k.2.2.1, by rw [(f.2 9 j n9).1]; exact k.2.2.2⟩
theorem HsC_fr {S : Nat → Nat → Prop} {σ h : Hp} {r : Nat} {hs : List Hd} (f : Fr S σ h) (n : ∀ g, 32 ≤ g → g ≤ 37 → ¬ S g r) (k : HsC σ r hs) : HsC h r hs := ⟨by rw [(f.2 32 r (n 32 (by omega) (by omega))).1]; exact k.1, k.2.1, All_mo k.2.2 fun j y _ q => ⟨by rw [(f.2 33 r (n 33 (by omega) (by omega))).1]; exact q.1, by rw [(f.2 34 r (n 34 (by omega) (by omega))).1]; exact q.2.1, by rw [(f.2 35 r (n 35 (by omega) (by omega))).2.1]; exact q.2.2.1, by rw [(f.2 36 r (n 36 (by omega) (by omega))).1]; exact q.2.2.2.1, q.2.2.2.2⟩⟩
theorem RdsC_fr {S : Nat → Nat → Prop} {σ h : Hp} {j : Nat} {rs : List (Pl × Pl)} (f : Fr S σ h) (n : ∀ g, 8 ≤ g → g ≤ 17 → ¬ S g j) (k : RdsC σ j rs) : RdsC h j rs := ⟨by rw [(f.2 8 j (n 8 (by omega) (by omega))).1]; exact k.1, k.2.1, All_mo k.2.2 fun i y _ q => ⟨by rw [(f.2 11 j (n 11 (by omega) (by omega))).1]; exact q.1, by rw [(f.2 12 j (n 12 (by omega) (by omega))).2.1]; exact q.2.1, by rw [(f.2 13 j (n 13 (by omega) (by omega))).1]; exact q.2.2.1, by rw [(f.2 14 j (n 14 (by omega) (by omega))).2.1]; exact q.2.2.2.1, q.2.2.2.2⟩⟩
theorem EnsC_fr {S : Nat → Nat → Prop} {σ h : Hp} {j : Nat} {es : List En} (f : Fr S σ h) (n : ∀ g, 8 ≤ g → g ≤ 17 → ¬ S g j) (k : EnsC σ j es) : EnsC h j es := ⟨by rw [(f.2 8 j (n 8 (by omega) (by omega))).1]; exact k.1, k.2.1, All_mo k.2.2 fun i y _ q => ⟨by rw [(f.2 15 j (n 15 (by omega) (by omega))).1]; exact q.1, by rw [(f.2 16 j (n 16 (by omega) (by omega))).2.1]; exact q.2.1, by rw [(f.2 17 j (n 17 (by omega) (by omega))).1]; exact q.2.2.1, q.2.2.2⟩⟩
section
variable {σ : Hp} {P : Nat → List Line} {X : Nat → XA} {rs : List (Pl × Pl)} {Q : Option AV → Hp → Prop}
set_option maxRecDepth 6000 in
theorem s_follow (d : Nat) (hs : ∀ p, p < 12 → SrcC σ 0 p (P p)) (hh : ∀ p, p < 12 → HsC σ p (X p).2.2.1) (hr : RdsC σ 0 rs) {p l : Nat} : ∀ (f : Nat) (seen : List Pl) (us : List Nat) (x : Pl) (h : Hp), seen.length + f = 169 → RtI σ h seen us x → (∀ h, RtC h (rtGo P X rs f seen us x) → Fr RF σ h → Q none h) → Sat true (d + 2) 43 σ.1 Q 36 [some (vr 225 0), some (vr 21 p), some (vi (nI l))] [] h := by
  intro f
  induction f with
  | zero =>
    intro seen us x h hf k hq
    obtain ⟨k1, k2, k3, k4, k5, k6, k7, k8, k9, k0⟩ := k
    refine wp_ok (cut := [36, 53]) ma_43 rfl 8 _ _ _ _ ?_
    show (((nI 169) ≤ (hI h 225 0 5) → (Q none h ∧ h.1 = σ.1)) ∧ (¬ (nI 169) ≤ (hI h 225 0 5) → CalI true (d + 1) 45 [vr 225 0] h σ.1 (fun x2 s1 => ((¬ x2 = 0 → (Q none s1 ∧ s1.1 = σ.1)) ∧ (x2 = 0 → Sat true (d + 2) 43 σ.1 Q 53 [some (vr 225 0), some (vr 21 p), some (vi (nI l))] [] s1)))))
    rw [k5]
    exact br_le (by omega) (by omega) (fun _ => ⟨hq h ⟨k1, k2, k3, k4, by rw [k5, ← k6]; rfl, k8, by show us.length ≤ 169; omega, k9⟩ k0, k0.1⟩) (fun g => by omega)
  | succ f ih =>
    intro seen us x h hf k hq
    obtain ⟨k1, k2, k3, k4, k5, k6, k7, k8, k9, k0⟩ := k
    have wh := e_wasHere (d + 1) k2 k3 k5 (by omega) k7 k9
    unfold rtGo at hq
    refine wp_ok (cut := [36, 53]) ma_43 rfl 8 _ _ _ _ ?_
    show (((nI 169) ≤ (hI h 225 0 5) → (Q none h ∧ h.1 = σ.1)) ∧ (¬ (nI 169) ≤ (hI h 225 0 5) → CalI true (d + 1) 45 [vr 225 0] h σ.1 (fun x2 s1 => ((¬ x2 = 0 → (Q none s1 ∧ s1.1 = σ.1)) ∧ (x2 = 0 → Sat true (d + 2) 43 σ.1 Q 53 [some (vr 225 0), some (vr 21 p), some (vi (nI l))] [] s1)))))
    rw [k5]
    refine br_le (by omega) (by omega) (fun g => by omega) (fun _ => cal_i wh k0.1 (brN (fun g => ?_) (fun g => ?_)))
    · rw [if_pos (of_decide_eq_true g)] at hq
      exact ⟨hq h ⟨k1, k2, k3, k4, by rw [k5, ← k6], k8, by show us.length ≤ 169; omega, k9⟩ k0, k0.1⟩
    · rw [if_neg (of_decide_eq_false g)] at hq
      -- the place is put down
      have f1 : Fr RF σ (setL (setI h 226 0 seen.length (nI x.1)) 227 0 seen.length (lN (anO x.2))) := (k0.sI (f := 226) ⟨by omega, by omega⟩ _ _).sL (f := 227) ⟨by omega, by omega⟩ _ _
      have g1 : hI (setL (setI h 226 0 seen.length (nI x.1)) 227 0 seen.length (lN (anO x.2))) 225 0 = hI h 225 0 := by simp (disch := omega) only [hI_s, hI_k, hI_f, hI_sL, hL_sI, hL_s, hL_k, hL_f]
      have g2 : hL (setL (setI h 226 0 seen.length (nI x.1)) 227 0 seen.length (lN (anO x.2))) 225 0 = hL h 225 0 := by simp (disch := omega) only [hI_s, hI_k, hI_f, hI_sL, hL_sI, hL_s, hL_k, hL_f]
      have g3 : All (seen ++ [x]) (SeenC (setL (setI h 226 0 seen.length (nI x.1)) 227 0 seen.length (lN (anO x.2)))) := by
        refine All_snoc k7 (fun j y hj q => ⟨?_, ?_, q.2.2⟩) ⟨?_, ?_, k9⟩
        · simp (disch := omega) only [hI_s, hI_k, hI_f, hI_sL, hL_sI, hL_s, hL_k, hL_f]
          exact q.1
        · simp (disch := omega) only [hI_s, hI_k, hI_f, hI_sL, hL_sI, hL_s, hL_k, hL_f]
          exact q.2.1
        · simp (disch := omega) only [hI_s, hI_k, hI_f, hI_sL, hL_sI, hL_s, hL_k, hL_f]
        · simp (disch := omega) only [hI_s, hI_k, hI_f, hI_sL, hL_sI, hL_s, hL_k, hL_f]
      have g4 : hI (setL (setI h 226 0 seen.length (nI x.1)) 227 0 seen.length (lN (anO x.2))) 228 0 = hI h 228 0 := by simp (disch := omega) only [hI_s, hI_k, hI_f, hI_sL, hL_sI, hL_s, hL_k, hL_f]
      refine wp_ok (cut := [36, 103]) ma_43 rfl 25 _ _ _ _ ?_
      show (vp_in (hI h 225 0 5) 169 ∧ (vp_in (hI h 225 0 5) 169 ∧ CalI true (d + 1) 46 [vr 225 0] (setL (setI h 226 0 ((hI h 225 0 5).toNatClampNeg) (hI h 225 0 2)) 227 0 ((hI h 225 0 5).toNatClampNeg) (hL h 225 0 3)) σ.1 (fun x2 s1 => ((x2 = 0 → Sat true (d + 2) 43 σ.1 Q 103 [some (vr 225 0), some (vr 21 p), some (vi (nI l))] [] s1) ∧ (¬ x2 = 0 → ((¬ (hI s1 225 0 5) = 0 → (Q none (setI s1 225 0 1 (nI 1)) ∧ s1.1 = σ.1)) ∧ ((hI s1 225 0 5) = 0 → (Q none (setI s1 225 0 1 (nI 0)) ∧ s1.1 = σ.1))))))))
      rw [k5, k2, k3, ix (by omega)]
      generalize setL (setI h 226 0 seen.length (nI x.1)) 227 0 seen.length (lN (anO x.2)) = h1 at f1 g1 g2 g3 g4 ⊢
      have s1 := SrcC_fr f1 (fun w => by have := w.1; omega) (fun w => by have := w.1; omega) (hs x.1 k9.1)
      have ig := e_isGoodR (P := P) (X := X) d (σ := h1) (x := x) (by rw [g1]; exact k2) (by rw [g2]; exact k3) (by rw [g1]; exact k4) k9 s1 (HsC_fr f1 (fun g a b w => by have := w.1; omega) (hh x.1 k9.1))
      refine ⟨inb (by omega) (by omega), inb (by omega) (by omega), cal_i ig f1.1 (brI (fun gg => ?_) (fun gg => ?_))⟩
      · rw [if_neg (by rw [gg]; exact Bool.false_ne_true)] at hq
        have hd6 : (if P x.1 = [] then (-6) else rtHd X x) = (-6 : Int32) := by
          by_cases c : P x.1 = []
          · exact if_pos c
          · rw [if_neg c]
            unfold rtGood at gg
            unfold rtHd
            rw [decide_eq_true c, Bool.true_and] at gg
            cases e : x.2 with
            | none => rw [e] at gg
            | some a =>
              rw [e] at gg
              by_cases w : hdW a (X x.1).2.2.1 0 = (-6)
              · exact w
              · exact absurd w (of_decide_eq_false gg)
        have sf : setI h1 225 0 4 (-6) = h1 := by
          have := setI_self h1 225 0 4
          rw [g1, k4] at this
          exact this
        rw [hd6, sf]
        have go := e_goOn (P := P) d (σ := h1) (x := x) (k := seen.length) (by omega) (by rw [g1]; exact k2) (by rw [g2]; exact k3) (by rw [g1]; exact k5) k9 s1 (RdsC_fr f1 (fun g a b w => by have := w.1; omega) hr)
        refine wp_ok (cut := [36]) ma_43 rfl 15 _ _ _ _ ?_
        show CalI true (d + 1) 47 [vr 225 0] h1 σ.1 (fun x2 s1 => ((¬ x2 = 0 → Sat true (d + 2) 43 σ.1 Q 36 [some (vr 225 0), some (vr 21 p), some (vi (nI l))] [] (setI s1 225 0 5 ((hI s1 225 0 5) + (nI 1)))) ∧ (x2 = 0 → CalI true (d + 1) 60 [vr 8 0, vi (hI s1 225 0 2)] s1 σ.1 (fun x4 s3 => ((x4 = 0 → (Q none (setI s3 225 0 1 (nI 3)) ∧ s3.1 = σ.1)) ∧ (¬ x4 = 0 → (Q none (setI s3 225 0 1 (nI 4)) ∧ s3.1 = σ.1)))))))
        refine cal_i go f1.1 ?_
        cases e : rtNext P rs x with
        | none =>
          rw [e] at hq
          refine b_f' ?_
          rw [g1, k2]
          have fin : ∀ n, (if P x.1 = [] then 3 else 4) = n → Q none (setI h1 225 0 1 (nI n)) := by
            intro n hn
            refine hq _ ⟨?_, ?_, ?_, ?_, ?_, ?_, ?_, k9⟩ (f1.sI (f := 225) ⟨by omega, by omega⟩ _ _)
            · simp (disch := omega) only [hI_s, hI_k, hI_f, hI_sL, hL_sI, hL_s, hL_k, hL_f]
              rw [hn]
            · simp (disch := omega) only [hI_s, hI_k, hI_f, hI_sL, hL_sI, hL_s, hL_k, hL_f]
              rw [g1]
              exact k2
            · simp (disch := omega) only [hI_s, hI_k, hI_f, hI_sL, hL_sI, hL_s, hL_k, hL_f]
              rw [g2]
              exact k3
            · simp (disch := omega) only [hI_s, hI_k, hI_f, hI_sL, hL_sI, hL_s, hL_k, hL_f]
              rw [g1]
              exact k4
            · simp (disch := omega) only [hI_s, hI_k, hI_f, hI_sL, hL_sI, hL_s, hL_k, hL_f]
              rw [g1, k5, ← k6]
            · exact All_mo k8 fun j u _ q => by
                simp (disch := omega) only [hI_s, hI_k, hI_f, hI_sL, hL_sI, hL_s, hL_k, hL_f]
                rw [g4]
                exact q
            · show us.length ≤ 169
              omega
          refine cal_i (e_hasSource (d + 1) k9.1 s1) f1.1 (brI (fun w => ⟨fin 3 ?_, f1.1⟩) (fun w => ⟨fin 4 ?_, f1.1⟩))
          · by_cases c : P x.1 = []
            · exact if_pos c
            · exact absurd c (of_decide_eq_false w)
          · exact if_neg (of_decide_eq_true w)
        | some r =>
          rw [e] at hq
          refine b_t' ?_
          have ng := rtNext_g (fun k y hy => ⟨(hr.2.2 k y hy).2.2.2.2.1, (hr.2.2 k y hy).2.2.2.2.2⟩) k9 (k := r.1) (y := r.2) e
          refine ih (seen ++ [x]) (us ++ [r.1]) r.2 _ (by rw [List.length_append]; show seen.length + 1 + f = 169; omega) ⟨?_, ?_, ?_, ?_, ?_, ?_, ?_, ?_, ng.2, ?_⟩ hq
          · simp (disch := omega) only [hI_s, hI_k, hI_f, hI_sL, hL_sI, hL_s, hL_k, hL_f]
            rw [g1]
            exact k1
          · simp (disch := omega) only [hI_s, hI_k, hI_f, hI_sL, hL_sI, hL_s, hL_k, hL_f]
          · simp (disch := omega) only [hI_s, hI_k, hI_f, hI_sL, hL_sI, hL_s, hL_k, hL_f]
          · simp (disch := omega) only [hI_s, hI_k, hI_f, hI_sL, hL_sI, hL_s, hL_k, hL_f]
            rw [g1]
            exact k4
          · simp (disch := omega) only [hI_s, hI_k, hI_f, hI_sL, hL_sI, hL_s, hL_k, hL_f]
            rw [g1, k5, addN, List.length_append]
            rfl
          · rw [List.length_append, List.length_append, k6]
            rfl
          · exact All_mo g3 fun j y hj q => ⟨by simp (disch := omega) only [hI_s, hI_k, hI_f, hI_sL, hL_sI, hL_s, hL_k, hL_f]; exact q.1, by simp (disch := omega) only [hI_s, hI_k, hI_f, hI_sL, hL_sI, hL_s, hL_k, hL_f]; exact q.2.1, q.2.2⟩
          · refine All_snoc k8 (fun j u hj q => ?_) ?_
            · simp (disch := omega) only [hI_s, hI_k, hI_f, hI_sL, hL_sI, hL_s, hL_k, hL_f]
              rw [g4]
              exact q
            · rw [k6]
              simp (disch := omega) only [hI_s, hI_k, hI_f, hI_sL, hL_sI, hL_s, hL_k, hL_f]
          · exact (((f1.sI (f := 228) ⟨by omega, by omega⟩ _ _).sI (f := 225) ⟨by omega, by omega⟩ _ _).sL (f := 225) ⟨by omega, by omega⟩ _ _).sI (f := 225) ⟨by omega, by omega⟩ _ _
      · rw [if_pos gg] at hq
        have hne : P x.1 ≠ [] := by
          intro c
          unfold rtGood at gg
          rw [decide_eq_false (fun w => w c), Bool.false_and] at gg
          cases gg
        rw [if_neg hne]
        have fin : ∀ n, (if seen = [] then 0 else 1) = n → Q none (setI (setI h1 225 0 4 (rtHd X x)) 225 0 1 (nI n)) := by
          intro n hn
          refine hq _ ⟨?_, ?_, ?_, ?_, ?_, ?_, ?_, k9⟩ ((f1.sI (f := 225) ⟨by omega, by omega⟩ _ _).sI (f := 225) ⟨by omega, by omega⟩ _ _)
          · simp (disch := omega) only [hI_s, hI_k, hI_f, hI_sL, hL_sI, hL_s, hL_k, hL_f]
            rw [hn]
          · simp (disch := omega) only [hI_s, hI_k, hI_f, hI_sL, hL_sI, hL_s, hL_k, hL_f]
            rw [g1]
            exact k2
          · simp (disch := omega) only [hI_s, hI_k, hI_f, hI_sL, hL_sI, hL_s, hL_k, hL_f]
            rw [g2]
            exact k3
          · simp (disch := omega) only [hI_s, hI_k, hI_f, hI_sL, hL_sI, hL_s, hL_k, hL_f]
          · simp (disch := omega) only [hI_s, hI_k, hI_f, hI_sL, hL_sI, hL_s, hL_k, hL_f]
            rw [g1, k5, ← k6]
          · exact All_mo k8 fun j u _ q => by
              simp (disch := omega) only [hI_s, hI_k, hI_f, hI_sL, hL_sI, hL_s, hL_k, hL_f]
              rw [g4]
              exact q
          · show us.length ≤ 169
            omega
        have e5 : hI (setI h1 225 0 4 (rtHd X x)) 225 0 5 = nI seen.length := by
          simp (disch := omega) only [hI_s, hI_k, hI_f, hI_sL, hL_sI, hL_s, hL_k, hL_f]
          rw [g1]
          exact k5
        rw [e5]
        refine br_ne (b := 0) (by omega) (by omega) (fun w => ⟨fin 1 (if_neg fun c => w (by rw [c]; rfl)), f1.1⟩) (fun w => ⟨fin 0 (if_pos (List.eq_nil_of_length_eq_zero w)), f1.1⟩)
theorem e_follow (d : Nat) (hs : ∀ p, p < 12 → SrcC σ 0 p (P p)) (hh : ∀ p, p < 12 → HsC σ p (X p).2.2.1) (hr : RdsC σ 0 rs) {p l : Nat} {x : Pl} (hp : p < 12) (hl : l < 40) (h26 : hI σ 26 p l = nI x.1) (h27 : hL σ 27 p l = lN (anO x.2)) (hx : gPl x) : PV (d + 2) 43 [vr 225 0, vr 21 p, vi (nI l)] σ (fun h => RtC h (rtRun P X rs x) ∧ Fr RF σ h) := by
  refine PV_of mt_43 (Nat.le_of_ble_eq_true rfl) fun Q hq => ?_
  refine wp_ok (cut := [36]) ma_43 rfl 21 _ _ _ _ ?_
  show (p < 12 ∧ (p < 12 ∧ (vp_in (nI l) 40 ∧ (p < 12 ∧ (p < 12 ∧ (vp_in (nI l) 40 ∧ Sat true (d + 2) 43 σ.1 Q 36 [some (vr 225 0), some (vr 21 p), some (vi (nI l))] [] (setI (setI (setI (setL (setI σ 225 0 2 (hI σ 26 p ((nI l).toNatClampNeg))) 225 0 3 (hL σ 27 p ((nI l).toNatClampNeg))) 225 0 4 (-6)) 225 0 1 (nI 2)) 225 0 5 (nI 0))))))))
  have i1 : vp_in (nI l) 40 := inb (by omega) (by omega)
  simp only [hp, true_and]
  rw [ix (by omega), h26, h27]
  refine ⟨i1, i1, s_follow d hs hh hr 169 [] [] x _ rfl ⟨?_, ?_, ?_, ?_, ?_, rfl, All_nil, All_nil, hx, ?_⟩ (fun h k1 k2 => hq h ⟨k1, k2⟩)⟩
  · simp (disch := omega) only [hI_s, hI_k, hI_f, hI_sL, hL_sI, hL_s, hL_k, hL_f]
  · simp (disch := omega) only [hI_s, hI_k, hI_f, hI_sL, hL_sI, hL_s, hL_k, hL_f]
  · simp (disch := omega) only [hI_s, hI_k, hI_f, hI_sL, hL_sI, hL_s, hL_k, hL_f]
  · simp (disch := omega) only [hI_s, hI_k, hI_f, hI_sL, hL_sI, hL_s, hL_k, hL_f]
  · simp (disch := omega) only [hI_s, hI_k, hI_f, hI_sL, hL_sI, hL_s, hL_k, hL_f]
    rfl
  · exact ((((((Fr.rfl' RF σ).sI (f := 225) ⟨by omega, by omega⟩ _ _).sL (f := 225) ⟨by omega, by omega⟩ _ _).sI (f := 225) ⟨by omega, by omega⟩ _ _).sI (f := 225) ⟨by omega, by omega⟩ _ _).sI (f := 225) ⟨by omega, by omega⟩ _ _)
def usN (r : Nat) : List Nat → Nat
  | [] => 0
  | u :: us => (if u = r then 1 else 0) + usN r us
theorem usN_sn (r : Nat) : ∀ (a : List Nat) (u : Nat), usN r (a ++ [u]) = usN r a + (if u = r then 1 else 0) := by
  intro a
  induction a with
  | nil => intro u; show (if u = r then 1 else 0) + 0 = 0 + _; omega
  | cons x a ih =>
    intro u
    show (if x = r then 1 else 0) + usN r (a ++ [u]) = (if x = r then 1 else 0) + usN r a + _
    rw [ih]
    omega
theorem usN_le (r : Nat) (a : List Nat) : usN r a ≤ a.length := by
  induction a with
  | nil => exact Nat.le_refl _
  | cons x a ih =>
    show (if x = r then 1 else 0) + usN r a ≤ a.length + 1
    split <;> omega
theorem e_routeUses (d : Nat) {h : Hp} {us : List Nat} {r : Nat} (hr : r < 12) (h5 : hI h 225 0 5 = nI us.length) (ha : All us (fun j u => hI h 228 0 j = nI u)) (hl : us.length ≤ 169) (hb : ∀ u ∈ us, u < 12) : EI d 44 [vr 225 0, vi (nI r)] h (nI (usN r us)) h := by
  refine EI_of mt_44 (Nat.le_of_ble_eq_true rfl) fun Q hq => ?_
  have loop : ∀ (b a : List Nat), us = a ++ b → Sat true d 44 h.1 Q 4 [some (vr 225 0), some (vi (nI r)), some (vi (nI (usN r a))), some (vi (nI a.length))] [] h := by
    intro b
    induction b with
    | nil =>
      intro a e
      rw [List.append_nil] at e
      refine wp_ok (cut := [4]) ma_44 rfl 13 _ _ _ _ ?_
      show (((hI h 225 0 5) ≤ (nI a.length) → (Q (some (vi (nI (usN r a)))) h ∧ h.1 = h.1)) ∧ (¬ (hI h 225 0 5) ≤ (nI a.length) → (vp_in (nI a.length) 169 ∧ ((¬ (hI h 228 0 ((nI a.length).toNatClampNeg)) = (nI r) → Sat true d 44 h.1 Q 4 [some (vr 225 0), some (vi (nI r)), some (vi (nI (usN r a))), some (vi ((nI a.length) + nI 1))] [] h) ∧ ((hI h 228 0 ((nI a.length).toNatClampNeg)) = (nI r) → Sat true d 44 h.1 Q 4 [some (vr 225 0), some (vi (nI r)), some (vi ((nI (usN r a)) + nI 1)), some (vi ((nI a.length) + nI 1))] [] h)))))
      rw [h5, ← e]
      exact ⟨fun _ => ⟨hq, rfl⟩, fun g => absurd (Int32.le_refl _) g⟩
    | cons u b ih =>
      intro a e
      have hlen : us.length = a.length + (b.length + 1) := by rw [e, List.length_append, List.length_cons]
      have hu : hI h 228 0 a.length = nI u := ha a.length u (by rw [e, List.getElem?_append_right (Nat.le_refl _), Nat.sub_self]; rfl)
      have hu12 := hb u (by rw [e]; exact List.mem_append.mpr (Or.inr List.mem_cons_self))
      have nx := ih (a ++ [u]) (by rw [e, List.append_assoc]; rfl)
      rw [usN_sn, List.length_append] at nx
      refine wp_ok (cut := [4]) ma_44 rfl 13 _ _ _ _ ?_
      show (((hI h 225 0 5) ≤ (nI a.length) → (Q (some (vi (nI (usN r a)))) h ∧ h.1 = h.1)) ∧ (¬ (hI h 225 0 5) ≤ (nI a.length) → (vp_in (nI a.length) 169 ∧ ((¬ (hI h 228 0 ((nI a.length).toNatClampNeg)) = (nI r) → Sat true d 44 h.1 Q 4 [some (vr 225 0), some (vi (nI r)), some (vi (nI (usN r a))), some (vi ((nI a.length) + nI 1))] [] h) ∧ ((hI h 228 0 ((nI a.length).toNatClampNeg)) = (nI r) → Sat true d 44 h.1 Q 4 [some (vr 225 0), some (vi (nI r)), some (vi ((nI (usN r a)) + nI 1)), some (vi ((nI a.length) + nI 1))] [] h)))))
      rw [h5, ix (by omega), hu, addN, addN]
      refine br_le (by omega) (by omega) (fun g => by omega) (fun _ => ⟨inb (by omega) (by omega), br_ne (by omega) (by omega) (fun g => ?_) (fun g => ?_)⟩)
      · rw [if_neg g] at nx
        exact nx
      · rw [if_pos g] at nx
        exact nx
  refine wp_ok (cut := [4]) ma_44 rfl 4 _ _ _ _ ?_
  show Sat true d 44 h.1 Q 4 [some (vr 225 0), some (vi (nI r)), some (vi (nI 0)), some (vi (nI 0))] [] h
  exact loop us [] rfl
end
