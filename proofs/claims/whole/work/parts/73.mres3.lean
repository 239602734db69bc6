/-! the model: resolve -/
theorem lkEls_g {own : Nat} (ho : own < 12) : ∀ (es : List Elem) (a : Nat), (∀ e ∈ es, gEl e) → ∀ k ∈ lkEls own a es, k.1 < 12 ∧ gAO k.2.1 := by
  intro es
  induction es with
  | nil => intro a _ k hk; cases hk
  | cons e r ih =>
    intro a hg k hk
    rcases List.mem_append.mp hk with w | w
    · have ge := hg e List.mem_cons_self
      rcases e with n | ⟨l, c⟩
      · cases w
      · have w : k ∈ [(l.getD own, c, a + 1, a + 1 + (txLink l c).length)] := w
        cases w with
        | head =>
          refine ⟨?_, ge.2.1⟩
          cases e : l with
          | none => exact ho
          | some q => exact ge.1 q e
        | tail _ w => cases w
    · exact ih _ (fun e he => hg e (List.mem_cons_of_mem _ he)) k w
theorem lkPg_g {own : Nat} (ho : own < 12) : ∀ (ls : List Line) (a : Nat), gPg ls → ∀ k ∈ lkPg own a ls, k.1 < 12 ∧ gAO k.2.1 := by
  intro ls
  induction ls with
  | nil => intro a _ k hk; cases hk
  | cons l r ih =>
    intro a hg k hk
    rcases List.mem_append.mp hk with w | w
    · have gl := hg l List.mem_cons_self
      rcases l with _ | _ | es
      · cases w
      · cases w
      · exact lkEls_g ho es a gl.2 k w
    · exact ih _ (fun l hl => hg l (List.mem_cons_of_mem _ hl)) k w
def SQ (f k : Nat) : Prop := SLay f k ∨ SRes f k
section
variable {σ : Hp} {P : Nat → List Line} {X : Nat → XA} {rs : List (Pl × Pl)} {Q : Option AV → Hp → Prop} {d : Nat} {p l : Nat} {m o : Int32} {x0 : Pl}
set_option maxRecDepth 6000 in
theorem s_resLoop (hS : ∀ q, q < 12 → SrcM σ q (P q)) (hH : ∀ q, q < 12 → (X q).2.2.1.length ≤ 100 ∧ hI σ 241 0 q = nI (X q).2.2.1.length ∧ All (X q).2.2.1 (HedM σ q (X q).2.2.1)) (hr : TrsM σ rs) : ∀ (f : Nat) (seen : List Pl) (us : List Nat) (x : Pl) (h : Hp), seen.length + f = 169 → RmI σ h x0 rs seen us x → (∀ h, RmC σ h x0 (rtGo P X rs f seen us x) → Q none h) → Sat true (d + 8) 177 σ.1 Q 97 (rsL p l m o none none) [] h := by
  intro f
  induction f with
  | zero =>
    intro seen us x h hf k hq
    have := seen_len (x0 := x0) hr.2.1 k.2.2.2.2.2.2.2.1 (fun y hy => by
      refine ⟨?_, k.2.2.2.2.2.2.2.2.1 y (List.mem_append.mpr (Or.inl hy))⟩
      obtain ⟨i, hi, e⟩ := List.getElem_of_mem hy
      have := k.2.2.2.1 i y (by rw [List.getElem?_append_left hi, List.getElem?_eq_getElem hi, e])
      exact this.2.1)
    omega
  | succ f ih =>
    intro seen us x h hf k hq
    have f0 := k.2.2.2.2.2.2.2.2.2
    have hB := f0.1
    have hx : SeenM h seen.length x := k.2.2.2.1 _ _ (by rw [List.getElem?_append_right (Nat.le_refl _), Nat.sub_self]; rfl)
    have h35 := k.2.1
    have n235 : ∀ k, ¬ SRes 235 k := fun k => by unfold SRes; omega
    have wh := m_wasHere (d + 5) h35 (by omega) (fun j y hj => k.2.2.2.1 j y (by rw [List.getElem?_append_left (All_lt hj)]; exact hj)) hx
    have hs := SrcM_fm f0 n235 (hS x.1 hx.2.1)
    have e241 : hI h 241 0 = hI σ 241 0 := f0.fam (fun k => by unfold SRes; omega) 0
    have e242 : hI h 242 0 = hI σ 242 0 := f0.fam (fun k => by unfold SRes; omega) 0
    have e243 : hI h 243 0 = hI σ 243 0 := f0.fam (fun k => by unfold SRes; omega) 0
    have e244 : hI h 244 0 = hI σ 244 0 := f0.fam (fun k => by unfold SRes; omega) 0
    have e245 : hI h 245 0 = hI σ 245 0 := f0.fam (fun k => by unfold SRes; omega) 0
    have e246 : hI h 246 0 = hI σ 246 0 := f0.fam (fun k => by unfold SRes; omega) 0
    obtain ⟨q1, q2, q3⟩ := hH x.1 hx.2.1
    have ig := m_isGood (P := P) (X := X) (d + 5) (s := seen.length) (by omega) h35 hx hs q1 (by rw [e241]; exact q2) (All_mo q3 fun j y _ c => HedM_cong (by rw [e242]) (by rw [e243]) (fun k _ _ => by rw [e245]) (by rw [e246]) (fun k _ => by rw [e244]) c)
    unfold rtGo at hq
    refine wp_ok (cut := [97, 136]) ma_177 rfl 20 _ _ _ _ ?_
    show ((¬ (hI h 233 0 36) = (-6) → (Q none h ∧ h.1 = σ.1)) ∧ ((hI h 233 0 36) = (-6) → CalI true (d + 7) 173 [vr 233 0] h σ.1 (fun x2 s1 => ((x2 = 0 → Sat true (d + 8) 177 σ.1 Q 136 [some (vr 233 0), some (vi (nI p)), some (vi (nI l)), some (vi m), some (vi o), some (vi ((nI 14) * (hI h 233 0 35))), none] [] s1) ∧ (¬ x2 = 0 → Sat true (d + 8) 177 σ.1 Q 97 [some (vr 233 0), some (vi (nI p)), some (vi (nI l)), some (vi m), some (vi o), some (vi ((nI 14) * (hI h 233 0 35))), none] [] (setI (setI s1 233 0 36 (nI 2)) 233 0 37 (-6)))))))
    rw [k.1, h35, mulN]
    refine ⟨fun g => absurd rfl g, fun _ => cal_i wh hB (brI (fun g => ?_) (fun g => ?_))⟩
    · rw [if_neg (of_decide_eq_false g)] at hq
      refine wp_ok (cut := [97, 162]) ma_177 rfl 12 _ _ _ _ ?_
      show CalI true (d + 7) 174 [vr 233 0] h σ.1 (fun x2 s1 => ((x2 = 0 → Sat true (d + 8) 177 σ.1 Q 162 [some (vr 233 0), some (vi (nI p)), some (vi (nI l)), some (vi m), some (vi o), some (vi (nI (14 * seen.length))), none] [] s1) ∧ (¬ x2 = 0 → ((¬ (hI s1 233 0 35) = 0 → Sat true (d + 8) 177 σ.1 Q 97 [some (vr 233 0), some (vi (nI p)), some (vi (nI l)), some (vi m), some (vi o), some (vi (nI (14 * seen.length))), none] [] (setI s1 233 0 36 (nI 1))) ∧ ((hI s1 233 0 35) = 0 → Sat true (d + 8) 177 σ.1 Q 97 [some (vr 233 0), some (vi (nI p)), some (vi (nI l)), some (vi m), some (vi o), some (vi (nI (14 * seen.length))), none] [] (setI s1 233 0 36 (nI 0)))))))
      refine cal_i ig hB ?_
      have k' : RmI σ (setI h 233 0 37 (if P x.1 = [] then (-6) else rtHd X x)) x0 rs seen us x := by
        obtain ⟨k1, k2, k3, k4, k5, k6, k7, k8, k9, k0⟩ := k
        refine ⟨by simp (disch := omega) only [hI_s, hI_k, hI_f, hI_sL, hL_sI, hL_s, hL_k, hL_f]; exact k1, by simp (disch := omega) only [hI_s, hI_k, hI_f, hI_sL, hL_sI, hL_s, hL_k, hL_f]; exact k2, k3, All_mo k4 fun j y _ q => SeenM_cong (fun k _ _ => by simp (disch := omega) only [hI_s, hI_k, hI_f, hI_sL, hL_sI, hL_s, hL_k, hL_f]) q, k5, fun r hr => by simp (disch := omega) only [hI_s, hI_k, hI_f, hI_sL, hL_sI, hL_s, hL_k, hL_f]; exact k6 r hr, k7, k8, k9, k0.sI (f := 233) (Or.inr (Or.inr ⟨rfl, Or.inr (Or.inr rfl)⟩)) _⟩
      refine brI (fun g2 => ?_) (fun g2 => ?_)
      · rw [if_neg (by rw [g2]; exact Bool.false_ne_true)] at hq
        have f1 := k'.2.2.2.2.2.2.2.2.2
        refine s_r162 (P := P) k' (by omega) (SrcM_fm f1 n235 (hS x.1 hx.2.1)) (TrsM_fr f1 n235 hr) (of_decide_eq_false g) (fun e h1 c => ?_) (fun r e h1 c => ?_)
        · rw [e] at hq
          exact hq h1 c
        · rw [e] at hq
          exact ih (seen ++ [x]) (us ++ [r.1]) r.2 h1 (by rw [List.length_append]; show seen.length + 1 + f = 169; omega) c hq
      · rw [if_pos g2] at hq
        have hne : P x.1 ≠ [] := by
          intro c
          unfold rtGood at g2
          rw [decide_eq_false (fun w => w c), Bool.false_and] at g2
          cases g2
        rw [if_neg hne] at k' ⊢
        have fin : ∀ n, n < 5 → (if seen = [] then 0 else 1) = n → Sat true (d + 8) 177 σ.1 Q 97 (rsL p l m o (some (vi (nI (14 * seen.length)))) none) [] (setI (setI h 233 0 37 (rtHd X x)) 233 0 36 (nI n)) := by
          intro n h5 hn
          rw [hn] at hq
          refine Sat_no 5 (s_rsEnd h5 (by simp (disch := omega) only [hI_s, hI_k, hI_f, hI_sL, hL_sI, hL_s, hL_k, hL_f]) hB (hq _ (RmC_of k' (by omega) (by simp (disch := omega) only [hI_s, hI_k, hI_f, hI_sL, hL_sI, hL_s, hL_k, hL_f]) (by simp (disch := omega) only [hI_s, hI_k, hI_f, hI_sL, hL_sI, hL_s, hL_k, hL_f]) (by simp (disch := omega) only [hI_s, hI_k, hI_f, hI_sL, hL_sI, hL_s, hL_k, hL_f]) (by simp (disch := omega) only [hI_s, hI_k, hI_f, hI_sL, hL_sI, hL_s, hL_k, hL_f]) (by simp (disch := omega) only [hI_s, hI_k, hI_f, hI_sL, hL_sI, hL_s, hL_k, hL_f]) ?_)))
          exact k'.2.2.2.2.2.2.2.2.2.sI (f := 233) (Or.inr (Or.inr ⟨rfl, Or.inr (Or.inl rfl)⟩)) _
        rw [k'.2.1]
        exact br_ne (b := 0) (by omega) (by omega) (fun w => fin 1 (by omega) (if_neg fun c => w (by rw [c]; rfl))) (fun w => fin 0 (by omega) (if_pos (List.eq_nil_of_length_eq_zero w)))
    · rw [if_pos (of_decide_eq_true g)] at hq
      refine Sat_no 5 (s_rsEnd (n := 2) (by omega) (by simp (disch := omega) only [hI_s, hI_k, hI_f, hI_sL, hL_sI, hL_s, hL_k, hL_f]) hB (hq _ (RmC_of k (by omega) (by simp (disch := omega) only [hI_s, hI_k, hI_f, hI_sL, hL_sI, hL_s, hL_k, hL_f]) (by simp (disch := omega) only [hI_s, hI_k, hI_f, hI_sL, hL_sI, hL_s, hL_k, hL_f]) (by simp (disch := omega) only [hI_s, hI_k, hI_f, hI_sL, hL_sI, hL_s, hL_k, hL_f]) (by simp (disch := omega) only [hI_s, hI_k, hI_f, hI_sL, hL_sI, hL_s, hL_k, hL_f]) (by simp (disch := omega) only [hI_s, hI_k, hI_f, hI_sL, hL_sI, hL_s, hL_k, hL_f]) ?_)))
      exact (f0.sI (f := 233) (Or.inr (Or.inr ⟨rfl, Or.inr (Or.inl rfl)⟩)) _).sI (f := 233) (Or.inr (Or.inr ⟨rfl, Or.inr (Or.inr rfl)⟩)) _
end
