/-! the class's Mender: find -/
def enD (x : Pl) : List En → Option Nat
  | [] => none
  | y :: r => if (y.1, some y.2.1) = x then some y.2.2 else enD x r
theorem enF_d (x : Pl) : ∀ (es : List En) (i : Nat), (enF x es i = (-6) ∧ enD x es = none) ∨ ∃ k y, es[k]? = some y ∧ enF x es i = nI (i + k) ∧ enD x es = some y.2.2 := by
  intro es
  induction es with
  | nil => intro i; exact Or.inl ⟨rfl, rfl⟩
  | cons y r ih =>
    intro i
    unfold enF enD
    by_cases c : (y.1, some y.2.1) = x
    · rw [if_pos c, if_pos c]
      exact Or.inr ⟨0, y, rfl, rfl, rfl⟩
    · rw [if_neg c, if_neg c]
      rcases ih (i + 1) with h | ⟨k, z, h1, h2, h3⟩
      · exact Or.inl h
      · exact Or.inr ⟨k + 1, z, h1, by rw [h2, show i + 1 + k = i + (k + 1) by omega], h3⟩
def exN (q n : Nat) : Nat := if q = n then 0 else 4
def ofP (P : Nat → List Line) (X : Nat → XA) (x : Pl) (dg : Option Nat) (q : Nat) (b : Bs) : Bs := if P q = [] then b else match x.2 with
  | none => ofF b (4 + (q - x.1 + (x.1 - q))) q (-6) none
  | some a => ofH (P q) a dg q (exN q x.1) (X q).2.2.1 0 (ofF b (6 + exN q x.1) q (-6) none)
def ofA (P : Nat → List Line) (X : Nat → XA) (x : Pl) (dg : Option Nat) : Nat → Bs
  | 0 => (1000, x.1, (-6), none)
  | q + 1 => ofP P X x dg q (ofA P X x dg q)
def WX (h : Hp) (x : Pl) : Prop := hL h 229 0 5 = lN (anO x.2) ∧ hI h 229 0 7 = nI (txO x.2).length ∧ ∀ k, k < (txO x.2).length → hI h 230 0 k = nI ((txO x.2).getD k 0)
def SFd (f _ : Nat) : Prop := 229 ≤ f ∧ f ≤ 232
theorem WX_fr {S : Nat → Nat → Prop} {σ h : Hp} {x : Pl} (f : Fr S σ h) (n : ¬ S 230 0) (e5 : hL h 229 0 5 = hL σ 229 0 5) (e7 : hI h 229 0 7 = hI σ 229 0 7) (k : WX σ x) : WX h x := ⟨e5.trans k.1, e7.trans k.2.1, fun i hi => by rw [(f.2 230 0 n).1]; exact k.2.2 i hi⟩
section
variable {σ : Hp} {P : Nat → List Line} {X : Nat → XA} {rs : List (Pl × Pl)} {es : List En}
theorem CS_d {h : Hp} (f : Fr SFd σ h) (cs : CS σ P X rs es) : CS h P X rs es := CS_fr f (fun g i a b _ w => by have := w.1; omega) cs
set_option maxRecDepth 6000 in
theorem e_find (d : Nat) (cs : CS σ P X rs es) (hP : gP P) (hX : ∀ p, p < 12 → XFin P p (X p) ∧ (X p).2.2.1.length ≤ 100) {p j : Nat} {k : Lk} (hp : p < 12) (hk : (lkPg p 0 (P p))[j]? = some k) : PV (d + 4) 16 [vr 229 0, vr 21 p, vi (nI j)] σ (fun h => MnC h (ofA P X (k.1, k.2.1) (enD (k.1, k.2.1) es) 12) ∧ Fr QF σ h) := by
  refine PV_of mt_16 (Nat.le_of_ble_eq_true rfl) fun Q hq => ?_
  obtain ⟨l1, l2, _, _, l5, l6⟩ := lkC cs hP hp hk
  have k12 : k.1 < 12 := l6.1
  have i1 : vp_in (nI j) 40 := inb l5 (by omega)
  have hdg : ∀ g, enD (k.1, k.2.1) es = some g → g < 1000003 := by
    intro g hg
    rcases enF_d (k.1, k.2.1) es 0 with ⟨_, h⟩ | ⟨i, y, h1, _, h3⟩
    · rw [hg] at h; cases h
    · rw [hg] at h3
      cases h3
      exact (cs.2.2.2.2.2.2 i y h1).2.2.2.2.2
  -- the pages
  have loop : ∀ (n q : Nat) (h : Hp) (x4 : Int32), q + n = 12 → MnC h (ofA P X (k.1, k.2.1) (enD (k.1, k.2.1) es) q) → WX h (k.1, k.2.1) → Fr SFd σ h → Sat true (d + 4) 16 σ.1 Q 102 [some (vr 229 0), some (vr 21 p), some (vi (nI j)), some (vi (nI k.1)), some (vi x4), some (vi (dgI (enD (k.1, k.2.1) es))), some (vi (nI q)), none] [] h := by
    intro n
    induction n with
    | zero =>
      intro q h x4 hq2 mb mw f
      have hq2 : q = 12 := hq2
      subst hq2
      refine wp_ok (cut := [102]) ma_16 rfl 35 _ _ _ _ ?_
      show (((nI 12) ≤ (nI 12) → (Q none h ∧ h.1 = σ.1)) ∧ (¬ (nI 12) ≤ (nI 12) → CalI true (d + 3) 60 [vr 8 0, vi (nI 12)] h σ.1 (fun x2 s1 => ((¬ x2 = 0 → ((¬ (lg_cmp (hL s1 229 0 5) (lN 0)) = 0 → ((¬ (nI 12) = (nI k.1) → CalV true (d + 3) 18 [vr 229 0, vi ((nI 6) + (nI 4)), vi (nI 12), vi (-6), vl (lN 0)] s1 σ.1 (fun s3 => CalV true (d + 3) 17 [vr 229 0, vi (nI 12), vi (nI 4), vi (dgI (enD (k.1, k.2.1) es))] s3 σ.1 (fun s4 => Sat true (d + 4) 16 σ.1 Q 102 [some (vr 229 0), some (vr 21 p), some (vi (nI j)), some (vi (nI k.1)), some (vi x4), some (vi (dgI (enD (k.1, k.2.1) es))), some (vi ((nI 12) + nI 1)), some (vi (nI 4))] [] s4))) ∧ ((nI 12) = (nI k.1) → CalV true (d + 3) 18 [vr 229 0, vi ((nI 6) + (nI 0)), vi (nI 12), vi (-6), vl (lN 0)] s1 σ.1 (fun s5 => CalV true (d + 3) 17 [vr 229 0, vi (nI 12), vi (nI 0), vi (dgI (enD (k.1, k.2.1) es))] s5 σ.1 (fun s6 => Sat true (d + 4) 16 σ.1 Q 102 [some (vr 229 0), some (vr 21 p), some (vi (nI j)), some (vi (nI k.1)), some (vi x4), some (vi (dgI (enD (k.1, k.2.1) es))), some (vi ((nI 12) + nI 1)), some (vi (nI 0))] [] s6))))) ∧ ((lg_cmp (hL s1 229 0 5) (lN 0)) = 0 → (s1.1.1 ≤ σ.1.1 ∧ s1.1.2.1 ≤ σ.1.2.1 ∧ CalV true (d + 3) 18 [vr 229 0, vi ((nI 4) + (if 0 ≤ (nI 12) - (nI k.1) then (nI 12) - (nI k.1) else 0 - ((nI 12) - (nI k.1)))), vi (nI 12), vi (-6), vl (lN 0)] s1 σ.1 (fun s7 => Sat true (d + 4) 16 σ.1 Q 102 [some (vr 229 0), some (vr 21 p), some (vi (nI j)), some (vi (nI k.1)), some (vi x4), some (vi (dgI (enD (k.1, k.2.1) es))), some (vi ((nI 12) + nI 1)), none] [] s7))))) ∧ (x2 = 0 → Sat true (d + 4) 16 σ.1 Q 102 [some (vr 229 0), some (vr 21 p), some (vi (nI j)), some (vi (nI k.1)), some (vi x4), some (vi (dgI (enD (k.1, k.2.1) es))), some (vi ((nI 12) + nI 1)), none] [] s1)))))
      exact ⟨fun _ => ⟨hq h ⟨mb, f.mo fun g _ w => Or.inr ⟨by have := w.1; omega, w.2⟩⟩, f.1⟩, fun g => absurd (Int32.le_refl _) g⟩
    | succ n ih =>
      intro q h x4 hq2 mb mw f
      have hq12 : q < 12 := by omega
      have cs1 := CS_d f cs
      have nx : ∀ (h' : Hp) (x7 : Option AV), MnC h' (ofP P X (k.1, k.2.1) (enD (k.1, k.2.1) es) q (ofA P X (k.1, k.2.1) (enD (k.1, k.2.1) es) q)) → WX h' (k.1, k.2.1) → Fr SFd σ h' → Sat true (d + 4) 16 σ.1 Q 102 [some (vr 229 0), some (vr 21 p), some (vi (nI j)), some (vi (nI k.1)), some (vi x4), some (vi (dgI (enD (k.1, k.2.1) es))), some (vi (nI (q + 1))), x7] [] h' := fun h' x7 m1 m2 m3 => Sat_no 7 (ih (q + 1) h' x4 (by omega) m1 m2 m3)
      unfold ofP at nx
      refine wp_ok (cut := [102]) ma_16 rfl 35 _ _ _ _ ?_
      show (((nI 12) ≤ (nI q) → (Q none h ∧ h.1 = σ.1)) ∧ (¬ (nI 12) ≤ (nI q) → CalI true (d + 3) 60 [vr 8 0, vi (nI q)] h σ.1 (fun x2 s1 => ((¬ x2 = 0 → ((¬ (lg_cmp (hL s1 229 0 5) (lN 0)) = 0 → ((¬ (nI q) = (nI k.1) → CalV true (d + 3) 18 [vr 229 0, vi ((nI 6) + (nI 4)), vi (nI q), vi (-6), vl (lN 0)] s1 σ.1 (fun s3 => CalV true (d + 3) 17 [vr 229 0, vi (nI q), vi (nI 4), vi (dgI (enD (k.1, k.2.1) es))] s3 σ.1 (fun s4 => Sat true (d + 4) 16 σ.1 Q 102 [some (vr 229 0), some (vr 21 p), some (vi (nI j)), some (vi (nI k.1)), some (vi x4), some (vi (dgI (enD (k.1, k.2.1) es))), some (vi ((nI q) + nI 1)), some (vi (nI 4))] [] s4))) ∧ ((nI q) = (nI k.1) → CalV true (d + 3) 18 [vr 229 0, vi ((nI 6) + (nI 0)), vi (nI q), vi (-6), vl (lN 0)] s1 σ.1 (fun s5 => CalV true (d + 3) 17 [vr 229 0, vi (nI q), vi (nI 0), vi (dgI (enD (k.1, k.2.1) es))] s5 σ.1 (fun s6 => Sat true (d + 4) 16 σ.1 Q 102 [some (vr 229 0), some (vr 21 p), some (vi (nI j)), some (vi (nI k.1)), some (vi x4), some (vi (dgI (enD (k.1, k.2.1) es))), some (vi ((nI q) + nI 1)), some (vi (nI 0))] [] s6))))) ∧ ((lg_cmp (hL s1 229 0 5) (lN 0)) = 0 → (s1.1.1 ≤ σ.1.1 ∧ s1.1.2.1 ≤ σ.1.2.1 ∧ CalV true (d + 3) 18 [vr 229 0, vi ((nI 4) + (if 0 ≤ (nI q) - (nI k.1) then (nI q) - (nI k.1) else 0 - ((nI q) - (nI k.1)))), vi (nI q), vi (-6), vl (lN 0)] s1 σ.1 (fun s7 => Sat true (d + 4) 16 σ.1 Q 102 [some (vr 229 0), some (vr 21 p), some (vi (nI j)), some (vi (nI k.1)), some (vi x4), some (vi (dgI (enD (k.1, k.2.1) es))), some (vi ((nI q) + nI 1)), none] [] s7))))) ∧ (x2 = 0 → Sat true (d + 4) 16 σ.1 Q 102 [some (vr 229 0), some (vr 21 p), some (vi (nI j)), some (vi (nI k.1)), some (vi x4), some (vi (dgI (enD (k.1, k.2.1) es))), some (vi ((nI q) + nI 1)), none] [] s1)))))
      have m1 : hL h 229 0 5 = lN (anO k.2.1) := mw.1
      rw [addN]
      refine br_le (by omega) (by omega) (fun g => by omega) (fun _ => cal_i (e_hasSource (d + 3) hq12 (cs1.1 q hq12)) f.1 (brN (fun g => ?_) (fun g => ?_)))
      · rw [if_neg (of_decide_eq_true g)] at nx
        rw [m1, lg_cmp_eq, lO_0 l6.2, absN (by omega) (by omega), addN, addN, addN]
        obtain ⟨k1, k2, k3⟩ := k
        cases k2 with
        | none =>
          refine ⟨fun w => absurd rfl w, fun _ => ⟨by rw [f.1]; exact Nat.le_refl _, by rw [f.1]; exact Nat.le_refl _, ?_⟩⟩
          refine cp_v (e_offer (d + 3) (an := none) mb (by have : k1 < 12 := k12; show 4 + (q - k1 + (k1 - q)) ≤ 3000; omega) hq12 (fun x hx => by cases hx)) f.1 (fun h2 q2 e2 => nx h2 _ q2.1 ?_ ?_)
          · exact WX_fr q2.2.2.2 (fun w => by have w : 230 = 229 := w; omega) q2.2.1 q2.2.2.1 mw
          · exact f.tr (q2.2.2.2.mo fun g _ w => by have w : g = 229 := w; exact ⟨by omega, by omega⟩)
        | some a =>
          refine ⟨fun _ => ?_, fun w => by cases w⟩
          have ga : gAnc a := l6.2 a rfl
          have both : ∀ e : Nat, e ≤ 4 → exN q k1 = e → CalV true (d + 3) 18 [vr 229 0, vi (nI (6 + e)), vi (nI q), vi (-6), vl (lN 0)] h σ.1 (fun s3 => CalV true (d + 3) 17 [vr 229 0, vi (nI q), vi (nI e), vi (dgI (enD (k1, some a) es))] s3 σ.1 (fun s4 => Sat true (d + 4) 16 σ.1 Q 102 [some (vr 229 0), some (vr 21 p), some (vi (nI j)), some (vi (nI k1)), some (vi x4), some (vi (dgI (enD (k1, some a) es))), some (vi (nI (q + 1))), some (vi (nI e))] [] s4)) := by
            intro e he4 hex
            have nx : ∀ (h' : Hp) (x7 : Option AV), MnC h' (ofH (P q) a (enD (k1, some a) es) q (exN q k1) (X q).2.2.1 0 (ofF (ofA P X (k1, some a) (enD (k1, some a) es) q) (6 + exN q k1) q (-6) none)) → WX h' (k1, some a) → Fr SFd σ h' → Sat true (d + 4) 16 σ.1 Q 102 [some (vr 229 0), some (vr 21 p), some (vi (nI j)), some (vi (nI k1)), some (vi x4), some (vi (dgI (enD (k1, some a) es))), some (vi (nI (q + 1))), x7] [] h' := nx
            rw [hex] at nx
            refine cp_v (e_offer (d + 3) (an := none) mb (by omega) hq12 (fun x hx => by cases hx)) f.1 (fun h2 q2 e2 => ?_)
            have mw2 := WX_fr q2.2.2.2 (fun w => by have w : 230 = 229 := w; omega) q2.2.1 q2.2.2.1 mw
            have f2 : Fr SFd σ h2 := f.tr (q2.2.2.2.mo fun g _ w => by have w : g = 229 := w; exact ⟨by omega, by omega⟩)
            refine cp_v (e_offerHeadings d (CS_d f2 cs) hP hX (a := a) hq12 he4 ga hdg q2.1 mw2) e2 (fun h3 q3 e3 => nx h3 _ q3.1 q3.2.1 (f2.tr (q3.2.2.mo fun g _ w => ?_)))
            rcases w with w | w | w <;> exact ⟨by omega, by omega⟩
          refine br_ne (by omega) (by have : k1 < 12 := k12; omega) (fun w => both 4 (by omega) (if_neg w)) (fun w => both 0 (by omega) (if_pos w))
      · rw [if_pos (pnil g)] at nx
        rw [addN]
        exact nx h _ mb mw f
  have sp := e_spell230 (d + 2) (setL σ 229 0 5 (lN (anO k.2.1))) (o := k.2.1) l6.2 (b := 0) (by have : (txO k.2.1).length ≤ 11 := txO_len (c := k.2.1) l6.2; omega)
  refine wp_ok (cut := [102]) ma_16 rfl 51 _ _ _ _ ?_
  show (p < 12 ∧ (p < 12 ∧ (vp_in (nI j) 40 ∧ (p < 12 ∧ (p < 12 ∧ (vp_in (nI j) 40 ∧ CalI true (d + 3) 5 [vl (hL σ 27 p ((nI j).toNatClampNeg)), vr 230 0, vi (nI 0)] (setL σ 229 0 5 (hL σ 27 p ((nI j).toNatClampNeg))) σ.1 (fun x2 s1 => CalI true (d + 3) 65 [vr 8 0, vi (hI σ 26 p ((nI j).toNatClampNeg)), vl (hL s1 229 0 5)] (setL (setI (setI (setI (setI s1 229 0 7 x2) 229 0 1 (nI 1000)) 229 0 2 (hI σ 26 p ((nI j).toNatClampNeg))) 229 0 3 (-6)) 229 0 4 (lN 0)) σ.1 (fun x4 s3 => ((¬ x4 = (-6) → (vp_in x4 40 ∧ Sat true (d + 4) 16 σ.1 Q 102 [some (vr 229 0), some (vr 21 p), some (vi (nI j)), some (vi (hI σ 26 p ((nI j).toNatClampNeg))), some (vi x4), some (vi (hI s3 17 0 x4.toNatClampNeg)), some (vi (nI 0)), none] [] s3)) ∧ (x4 = (-6) → Sat true (d + 4) 16 σ.1 Q 102 [some (vr 229 0), some (vr 21 p), some (vi (nI j)), some (vi (hI σ 26 p ((nI j).toNatClampNeg))), some (vi x4), some (vi (-1)), some (vi (nI 0)), none] [] s3))))))))))
  simp only [hp, true_and]
  rw [ix (by omega), l1, l2]
  refine ⟨i1, i1, cal_i sp rfl ?_⟩
  have f0 : Fr SFd σ (wrT (setL σ 229 0 5 (lN (anO k.2.1))) 230 0 (txO k.2.1)) := Fr_wr ((Fr.rfl' SFd σ).sL (f := 229) ⟨by omega, by omega⟩ _ _) ⟨by omega, by omega⟩
  have w5 : hL (wrT (setL σ 229 0 5 (lN (anO k.2.1))) 230 0 (txO k.2.1)) 229 0 5 = lN (anO k.2.1) := by
    show hL (setL σ 229 0 5 (lN (anO k.2.1))) 229 0 5 = _
    simp (disch := omega) only [hI_s, hI_k, hI_f, hI_sL, hL_sI, hL_s, hL_k, hL_f]
  have w230 : ∀ i, i < (txO k.2.1).length → hI (wrT (setL σ 229 0 5 (lN (anO k.2.1))) 230 0 (txO k.2.1)) 230 0 i = nI ((txO k.2.1).getD i 0) := fun i hi => wrT_at _ 230 _ hi
  rw [w5]
  generalize wrT (setL σ 229 0 5 (lN (anO k.2.1))) 230 0 (txO k.2.1) = h0 at f0 w5 w230 ⊢
  have f1 : Fr SFd σ (setL (setI (setI (setI (setI h0 229 0 7 (nI (txO k.2.1).length)) 229 0 1 (nI 1000)) 229 0 2 (nI k.1)) 229 0 3 (-6)) 229 0 4 (lN 0)) := ((((f0.sI (f := 229) ⟨by omega, by omega⟩ _ _).sI (f := 229) ⟨by omega, by omega⟩ _ _).sI (f := 229) ⟨by omega, by omega⟩ _ _).sI (f := 229) ⟨by omega, by omega⟩ _ _).sL (f := 229) ⟨by omega, by omega⟩ _ _
  have m1 : MnC (setL (setI (setI (setI (setI h0 229 0 7 (nI (txO k.2.1).length)) 229 0 1 (nI 1000)) 229 0 2 (nI k.1)) 229 0 3 (-6)) 229 0 4 (lN 0)) (ofA P X (k.1, k.2.1) (enD (k.1, k.2.1) es) 0) := by
    refine ⟨?_, ?_, ?_, ?_, Nat.le_refl _, k12, fun x hx => by cases hx⟩
    · simp (disch := omega) only [hI_s, hI_k, hI_f, hI_sL, hL_sI, hL_s, hL_k, hL_f]
      rfl
    · simp (disch := omega) only [hI_s, hI_k, hI_f, hI_sL, hL_sI, hL_s, hL_k, hL_f]
      rfl
    · simp (disch := omega) only [hI_s, hI_k, hI_f, hI_sL, hL_sI, hL_s, hL_k, hL_f]
      rfl
    · simp (disch := omega) only [hI_s, hI_k, hI_f, hI_sL, hL_sI, hL_s, hL_k, hL_f]
      rfl
  have m2 : WX (setL (setI (setI (setI (setI h0 229 0 7 (nI (txO k.2.1).length)) 229 0 1 (nI 1000)) 229 0 2 (nI k.1)) 229 0 3 (-6)) 229 0 4 (lN 0)) (k.1, k.2.1) := by
    refine ⟨?_, ?_, fun i hi => ?_⟩
    · simp (disch := omega) only [hI_s, hI_k, hI_f, hI_sL, hL_sI, hL_s, hL_k, hL_f]
      exact w5
    · simp (disch := omega) only [hI_s, hI_k, hI_f, hI_sL, hL_sI, hL_s, hL_k, hL_f]
    · simp (disch := omega) only [hI_s, hI_k, hI_f, hI_sL, hL_sI, hL_s, hL_k, hL_f]
      exact w230 i hi
  generalize setL (setI (setI (setI (setI h0 229 0 7 (nI (txO k.2.1).length)) 229 0 1 (nI 1000)) 229 0 2 (nI k.1)) 229 0 3 (-6)) 229 0 4 (lN 0) = h1 at f1 m1 m2 ⊢
  have cs1 := CS_d f1 cs
  have ew := e_entryWith (d + 3) (x := (k.1, k.2.1)) cs1.2.2.2.2 l6
  refine cal_i ew f1.1 ?_
  have h40 := cs1.2.2.2.2.2.1
  rcases enF_d (k.1, k.2.1) es 0 with ⟨e1, e2⟩ | ⟨i, y, e0, e1, e2⟩
  · rw [e1]
    have lp := loop 12 0 h1 (-6) (by omega) m1 m2 f1
    rw [e2] at lp
    exact ⟨fun g => absurd rfl g, fun _ => lp⟩
  · have hi := All_lt e0
    have lp := loop 12 0 h1 (nI i) (by omega) m1 m2 f1
    rw [e2] at lp
    rw [e1, Nat.zero_add, ix (by omega), (cs1.2.2.2.2.2.2 i y e0).2.2.1]
    refine ⟨fun _ => ⟨inb (by omega) (by omega), lp⟩, fun g => ?_⟩
    have := congrArg Int32.toInt g
    rw [nI_toInt (by omega)] at this
    have e2 : (-6 : Int32).toInt = -6 := by decide
    omega
end
