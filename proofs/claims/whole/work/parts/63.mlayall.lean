/-! the model: layAll -/
def Reg (p f k : Nat) : Prop := ((f = 239 ∨ f = 240 ∨ f = 241 ∨ f = 247 ∨ f = 251 ∨ f = 252 ∨ f = 253) ∧ k = p) ∨ ((f = 242 ∨ f = 243 ∨ f = 246) ∧ 100 * p ≤ k ∧ k < 100 * p + 100) ∨ (f = 244 ∧ 1000 * p ≤ k ∧ k < 1000 * p + 1000) ∨ (f = 245 ∧ ((1200 * p ≤ k ∧ k < 1200 * p + 1200) ∨ (14400 + 504 * p ≤ k ∧ k < 14400 + 504 * p + 504))) ∨ ((f = 248 ∨ f = 249 ∨ f = 250) ∧ 54 * p ≤ k ∧ k < 54 * p + 54) ∨ ((f = 254 ∨ f = 255 ∨ f = 256) ∧ 42 * p ≤ k ∧ k < 42 * p + 42)
def SecX (h : Hp) (p : Nat) (hs : List Hd) (j : Nat) (s : Nat × Nat) : Prop := hI h 250 0 (54 * p + j) = nI s.1 ∧ hI h 248 0 (54 * p + j) = nI s.2 ∧ hI h 249 0 (54 * p + j) = hoF (fun _ => (-6)) 0 hs j
/-- what is laid of a page with the lines ls and the headings hs -/
def LdP (h : Hp) (p : Nat) (ls : List Line) (hs : List Hd) : Prop := hI h 241 0 p = nI hs.length ∧ All hs (HedM h p hs) ∧ hI h 247 0 p = nI (secs ls).length ∧ All (secs ls) (SecX h p hs) ∧ hI h 252 0 p = mInc ls ∧ hI h 253 0 p = nI (lkPg p 0 ls).length ∧ All (lkPg p 0 ls) (LinkM h p) ∧ (ls ≠ [] → hI h 251 0 p = nI (nInc ls))
theorem LdP_cong {h h' : Hp} {p : Nat} {ls : List Line} {hs : List Hd} (b1 : hs.length ≤ 100) (b2 : (secs ls).length ≤ 54) (b3 : (lkPg p 0 ls).length ≤ 42) (e : ∀ f k, Reg p f k → hI h' f 0 k = hI h f 0 k) (q : LdP h p ls hs) : LdP h' p ls hs := by
  obtain ⟨q1, q2, q3, q4, q5, q6, q7, q8⟩ := q
  refine ⟨?_, All_mo q2 fun j y hj c => HedM_cong ?_ ?_ (fun k _ _ => ?_) ?_ (fun k _ => ?_) c, ?_, All_mo q4 fun j y hj c => ⟨?_, ?_, ?_⟩, ?_, ?_, All_mo q7 fun j y hj c => ⟨?_, ?_, ?_, RowA_cong c.2.2.2 fun k _ _ => ?_⟩, fun g => ?_⟩
  · rw [e 241 p (by unfold Reg; omega)]; exact q1
  · exact e _ _ (by unfold Reg; omega)
  · exact e _ _ (by unfold Reg; omega)
  · exact e _ _ (by unfold Reg; omega)
  · exact e _ _ (by unfold Reg; omega)
  · exact e _ _ (by unfold Reg; omega)
  · rw [e 247 p (by unfold Reg; omega)]; exact q3
  · rw [e 250 _ (by unfold Reg; omega)]; exact c.1
  · rw [e 248 _ (by unfold Reg; omega)]; exact c.2.1
  · rw [e 249 _ (by unfold Reg; omega)]; exact c.2.2
  · rw [e 252 p (by unfold Reg; omega)]; exact q5
  · rw [e 253 p (by unfold Reg; omega)]; exact q6
  · rw [e 254 _ (by unfold Reg; omega)]; exact c.1
  · rw [e 255 _ (by unfold Reg; omega)]; exact c.2.1
  · rw [e 256 _ (by unfold Reg; omega)]; exact c.2.2.1
  · exact e _ _ (by unfold Reg; omega)
  · rw [e 251 p (by unfold Reg; omega)]; exact q8 g
def LaidP (h : Hp) (P : Nat → List Line) (p : Nat) : Prop := ∃ x, XFin P p x ∧ x.2.2.1.length ≤ 100 ∧ LdP h p (P p) x.2.2.1 ∧ (P p ≠ [] → hI h 239 0 p = nI x.1 ∧ hI h 240 0 p = x.2.1)
def LaidM (h : Hp) (P : Nat → List Line) : Prop := ∀ p, p < 12 → LaidP h P p
def SLay (f k : Nat) : Prop := (239 ≤ f ∧ f ≤ 260) ∨ (f = 233 ∧ (k = 5 ∨ k = 30 ∨ k = 31 ∨ k = 33))
theorem XFin_nil {P : Nat → List Line} {r : Nat} (h : P r = []) : XFin P r (0, 0, [], 0) := by
  refine ⟨[], xTo.one ?_, rfl⟩
  unfold xStep
  dsimp only
  rw [if_neg (by decide), h]
  rfl
theorem bds {P : Nat → List Line} (hP : gP P) {p : Nat} (hp : p < 12) : (secs (P p)).length ≤ 54 ∧ (lkPg p 0 (P p)).length ≤ 42 := by
  have e : (secs (P p)).length = 0 + nHd (P p) := secs_len (P p) []
  have b1 := nHd_b (hP p hp).1
  have b2 := lkPg_b p 0 (hP p hp).1
  have := (hP p hp).2
  omega
theorem LaidP_cong {h h' : Hp} {P : Nat → List Line} (hP : gP P) {p : Nat} (hp : p < 12) (e : ∀ f k, Reg p f k → hI h' f 0 k = hI h f 0 k) (q : LaidP h P p) : LaidP h' P p := by
  obtain ⟨x, q1, q2, q3, q4⟩ := q
  exact ⟨x, q1, q2, LdP_cong q2 (bds hP hp).1 (bds hP hp).2 e q3, fun g => ⟨by rw [e 239 p (by unfold Reg; omega)]; exact (q4 g).1, by rw [e 240 p (by unfold Reg; omega)]; exact (q4 g).2⟩⟩
section
variable {σ : Hp} {P : Nat → List Line} {Q : Option AV → Hp → Prop} {d : Nat}
theorem SrcM_fr {h : Hp} (f : FrM SLay σ h) {p : Nat} {ls : List Line} (s : SrcM σ p ls) : SrcM h p ls := by
  have hT : hI h 235 0 = hI σ 235 0 := f.fam (fun k => by unfold SLay; omega) 0
  exact ⟨s.1, s.2.1, by rw [hT]; exact s.2.2.1, by unfold TxM; rw [hT]; exact s.2.2.2⟩
/-- the second loop: the expansions -/
theorem s_lay2 (hP : gP P) (hS : ∀ q, q < 12 → SrcM σ q (P q)) (hX : ∀ p, p < 12 → ∃ x, XFin P p x ∧ x.2.2.1.length ≤ 100) (hq : ∀ h, LaidM h P → hI h 233 0 5 = nI 1 → FrM SLay σ h → Q none h) : ∀ (n i : Nat) (h : Hp), i + n = 12 → FrM SLay σ h → hI h 233 0 5 = nI 1 → (∀ p, p < i → LaidP h P p) → (∀ p, i ≤ p → p < 12 → LdP h p (P p) []) → Sat true (d + 5) 157 σ.1 Q 70 [some (vr 233 0), some (vi (nI i))] [] h := by
  intro n
  induction n with
  | zero =>
    intro i h hi f z5 a b
    refine wp_ok (cut := [70]) ma_157 rfl 12 _ _ _ _ ?_
    show (((nI 12) ≤ (nI i) → (Q none h ∧ h.1 = σ.1)) ∧ (¬ (nI 12) ≤ (nI i) → CalI true (d + 4) 111 [vr 233 0, vi (nI i)] h σ.1 (fun x2 s1 => ((x2 = 0 → Sat true (d + 5) 157 σ.1 Q 70 [some (vr 233 0), some (vi ((nI i) + nI 1))] [] s1) ∧ (¬ x2 = 0 → CalV true (d + 4) 156 [vr 233 0, vi (nI i)] s1 σ.1 (fun s3 => Sat true (d + 5) 157 σ.1 Q 70 [some (vr 233 0), some (vi ((nI i) + nI 1))] [] s3))))))
    exact br_le (by omega) (by omega) (fun _ => ⟨hq h (fun p hp => a p (by omega)) z5 f, f.1⟩) (fun g => by omega)
  | succ n ih =>
    intro i h hi f z5 a b
    have hi12 : i < 12 := by omega
    have li := b i (Nat.le_refl _) hi12
    have hh := m_has (d + 3) hi12 (SrcM_fr f (hS i hi12))
    refine wp_ok (cut := [70]) ma_157 rfl 12 _ _ _ _ ?_
    show (((nI 12) ≤ (nI i) → (Q none h ∧ h.1 = σ.1)) ∧ (¬ (nI 12) ≤ (nI i) → CalI true (d + 4) 111 [vr 233 0, vi (nI i)] h σ.1 (fun x2 s1 => ((x2 = 0 → Sat true (d + 5) 157 σ.1 Q 70 [some (vr 233 0), some (vi ((nI i) + nI 1))] [] s1) ∧ (¬ x2 = 0 → CalV true (d + 4) 156 [vr 233 0, vi (nI i)] s1 σ.1 (fun s3 => Sat true (d + 5) 157 σ.1 Q 70 [some (vr 233 0), some (vi ((nI i) + nI 1))] [] s3))))))
    rw [addN]
    refine br_le (by omega) (by omega) (fun g => by omega) (fun _ => cal_i hh f.1 (brI (fun g => ?_) (fun g => ?_)))
    · have e : P i = [] := by
        by_cases w : P i = []
        · exact w
        · exact absurd w (of_decide_eq_false g)
      refine ih (i + 1) h (by omega) f z5 (fun p hp => ?_) (fun p h1 h2 => b p (by omega) h2)
      by_cases q : p = i
      · rw [q]
        exact ⟨_, XFin_nil e, Nat.zero_le _, li, fun w => absurd e w⟩
      · exact a p (by omega)
    · have hne : P i ≠ [] := of_decide_eq_true g
      obtain ⟨x, x1, x2⟩ := hX i hi12
      refine cp_v (m_layExpansion (d + 1) hi12 hP (fun q hq => SrcM_fr f (hS q hq)) hne x1) f.1 (fun h2 k _ => ?_)
      obtain ⟨k1, k2, k3, k4, k5, k6⟩ := k
      have fr : ∀ f k, ¬ SEx i f k → hI h2 f 0 k = hI h f 0 k := fun f k n => k6.2.2.2 f 0 k fun w => n w.2
      refine ih (i + 1) h2 (by omega) (f.tr (k6.mo fun f k w => by unfold SEx SHd at w; unfold SLay; omega)) (by rw [fr 233 5 (by unfold SEx SHd; omega)]; exact z5) (fun p hp => ?_) (fun p h1 hp2 => ?_)
      · by_cases q : p = i
        · subst q
          obtain ⟨l1, l2, l3, l4, l5, l6, l7, l8⟩ := li
          have bb := bds hP hi12
          refine ⟨x, x1, x2, ⟨k3, k4, ?_, All_mo l4 fun j y hj c => ⟨?_, ?_, ?_⟩, ?_, ?_, All_mo l7 fun j y hj c => ⟨?_, ?_, ?_, RowA_cong c.2.2.2 fun k _ _ => ?_⟩, fun g => ?_⟩, fun _ => ⟨k1, k2⟩⟩
          · rw [fr 247 p (by unfold SEx SHd; omega)]; exact l3
          · rw [fr 250 _ (by unfold SEx SHd; omega)]; exact c.1
          · rw [fr 248 _ (by unfold SEx SHd; omega)]; exact c.2.1
          · rw [k5 j (by omega)]
            exact hoF_pt _ _ _ _ _ c.2.2
          · rw [fr 252 p (by unfold SEx SHd; omega)]; exact l5
          · rw [fr 253 p (by unfold SEx SHd; omega)]; exact l6
          · rw [fr 254 _ (by unfold SEx SHd; omega)]; exact c.1
          · rw [fr 255 _ (by unfold SEx SHd; omega)]; exact c.2.1
          · rw [fr 256 _ (by unfold SEx SHd; omega)]; exact c.2.2.1
          · exact fr _ _ (by unfold SEx SHd; omega)
          · rw [fr 251 p (by unfold SEx SHd; omega)]; exact l8 g
        · exact LaidP_cong hP (by omega) (fun f k w => fr f k (by unfold Reg at w; unfold SEx SHd; omega)) (a p (by omega))
      · exact LdP_cong (Nat.zero_le _) (bds hP hp2).1 (bds hP hp2).2 (fun f k w => fr f k (by unfold Reg at w; unfold SEx SHd; omega)) (b p (by omega) hp2)
/-- the first loop: what a source has by itself -/
theorem s_lay1 (hP : gP P) (hS : ∀ q, q < 12 → SrcM σ q (P q)) (hX : ∀ p, p < 12 → ∃ x, XFin P p x ∧ x.2.2.1.length ≤ 100) (hq : ∀ h, LaidM h P → hI h 233 0 5 = nI 1 → FrM SLay σ h → Q none h) : ∀ (n i : Nat) (h : Hp), i + n = 12 → FrM SLay σ h → hI h 233 0 5 = nI 1 → (∀ p, p < i → LdP h p (P p) []) → Sat true (d + 5) 157 σ.1 Q 15 [some (vr 233 0), some (vi (nI i))] [] h := by
  intro n
  induction n with
  | zero =>
    intro i h hi f z5 a
    refine wp_ok (cut := [15, 70]) ma_157 rfl 32 _ _ _ _ ?_
    show (((nI 12) ≤ (nI i) → Sat true (d + 5) 157 σ.1 Q 70 [some (vr 233 0), some (vi (nI 0))] [] h) ∧ (¬ (nI 12) ≤ (nI i) → (vp_in (nI i) 12 ∧ (vp_in (nI i) 12 ∧ (vp_in (nI i) 12 ∧ (vp_in (nI i) 12 ∧ CalI true (d + 4) 111 [vr 233 0, vi (nI i)] (setI (setI (setI (setI h 241 0 ((nI i).toNatClampNeg) (nI 0)) 247 0 ((nI i).toNatClampNeg) (nI 0)) 253 0 ((nI i).toNatClampNeg) (nI 0)) 252 0 ((nI i).toNatClampNeg) (nI 0)) σ.1 (fun x2 s1 => ((x2 = 0 → Sat true (d + 5) 157 σ.1 Q 15 [some (vr 233 0), some (vi ((nI i) + nI 1))] [] s1) ∧ (¬ x2 = 0 → CalV true (d + 4) 151 [vr 233 0, vi (nI i)] s1 σ.1 (fun s3 => Sat true (d + 5) 157 σ.1 Q 15 [some (vr 233 0), some (vi ((nI i) + nI 1))] [] s3))))))))))
    exact br_le (by omega) (by omega) (fun _ => s_lay2 hP hS hX hq 12 0 h (by omega) f z5 (fun p hp => absurd hp (Nat.not_lt_zero _)) (fun p _ hp => a p (by omega))) (fun g => by omega)
  | succ n ih =>
    intro i h hi f z5 a
    have hi12 : i < 12 := by omega
    have i1 : vp_in (nI i) 12 := inb (by omega) (by omega)
    have f1 : FrM SLay σ (setI (setI (setI (setI h 241 0 i (nI 0)) 247 0 i (nI 0)) 253 0 i (nI 0)) 252 0 i (nI 0)) := (((f.sI (f := 241) (Or.inl (by omega)) _).sI (f := 247) (Or.inl (by omega)) _).sI (f := 253) (Or.inl (by omega)) _).sI (f := 252) (Or.inl (by omega)) _
    have g1 : hI (setI (setI (setI (setI h 241 0 i (nI 0)) 247 0 i (nI 0)) 253 0 i (nI 0)) 252 0 i (nI 0)) 241 0 i = nI 0 := by simp (disch := omega) only [hI_s, hI_k, hI_f, hI_sL, hL_sI, hL_s, hL_k, hL_f]
    have g2 : hI (setI (setI (setI (setI h 241 0 i (nI 0)) 247 0 i (nI 0)) 253 0 i (nI 0)) 252 0 i (nI 0)) 247 0 i = nI 0 := by simp (disch := omega) only [hI_s, hI_k, hI_f, hI_sL, hL_sI, hL_s, hL_k, hL_f]
    have g3 : hI (setI (setI (setI (setI h 241 0 i (nI 0)) 247 0 i (nI 0)) 253 0 i (nI 0)) 252 0 i (nI 0)) 253 0 i = nI 0 := by simp (disch := omega) only [hI_s, hI_k, hI_f, hI_sL, hL_sI, hL_s, hL_k, hL_f]
    have g4 : hI (setI (setI (setI (setI h 241 0 i (nI 0)) 247 0 i (nI 0)) 253 0 i (nI 0)) 252 0 i (nI 0)) 252 0 i = nI 0 := by simp (disch := omega) only [hI_s, hI_k, hI_f, hI_sL, hL_sI, hL_s, hL_k, hL_f]
    have g5 : hI (setI (setI (setI (setI h 241 0 i (nI 0)) 247 0 i (nI 0)) 253 0 i (nI 0)) 252 0 i (nI 0)) 233 0 5 = nI 1 := by simp (disch := omega) only [hI_s, hI_k, hI_f, hI_sL, hL_sI, hL_s, hL_k, hL_f]; exact z5
    have g6 : ∀ p, p < i → LdP (setI (setI (setI (setI h 241 0 i (nI 0)) 247 0 i (nI 0)) 253 0 i (nI 0)) 252 0 i (nI 0)) p (P p) [] := fun p hp => LdP_cong (h := h) (Nat.zero_le _) (bds hP (by omega)).1 (bds hP (by omega)).2 (fun f k w => by
      have w : ¬ ((f = 241 ∨ f = 247 ∨ f = 253 ∨ f = 252) ∧ k = i) := by unfold Reg at w; omega
      exact ((((((FrM.rfl' (fun f k => (f = 241 ∨ f = 247 ∨ f = 253 ∨ f = 252) ∧ k = i) h).sI (f := 241) ⟨by omega, rfl⟩ _).sI (f := 247) ⟨by omega, rfl⟩ _).sI (f := 253) ⟨by omega, rfl⟩ _).sI (f := 252) ⟨by omega, rfl⟩ _).2.2.2 f 0 k fun z => w z.2)) (a p hp)
    refine wp_ok (cut := [15, 70]) ma_157 rfl 32 _ _ _ _ ?_
    show (((nI 12) ≤ (nI i) → Sat true (d + 5) 157 σ.1 Q 70 [some (vr 233 0), some (vi (nI 0))] [] h) ∧ (¬ (nI 12) ≤ (nI i) → (vp_in (nI i) 12 ∧ (vp_in (nI i) 12 ∧ (vp_in (nI i) 12 ∧ (vp_in (nI i) 12 ∧ CalI true (d + 4) 111 [vr 233 0, vi (nI i)] (setI (setI (setI (setI h 241 0 ((nI i).toNatClampNeg) (nI 0)) 247 0 ((nI i).toNatClampNeg) (nI 0)) 253 0 ((nI i).toNatClampNeg) (nI 0)) 252 0 ((nI i).toNatClampNeg) (nI 0)) σ.1 (fun x2 s1 => ((x2 = 0 → Sat true (d + 5) 157 σ.1 Q 15 [some (vr 233 0), some (vi ((nI i) + nI 1))] [] s1) ∧ (¬ x2 = 0 → CalV true (d + 4) 151 [vr 233 0, vi (nI i)] s1 σ.1 (fun s3 => Sat true (d + 5) 157 σ.1 Q 15 [some (vr 233 0), some (vi ((nI i) + nI 1))] [] s3))))))))))
    rw [ix (by omega), addN]
    generalize setI (setI (setI (setI h 241 0 i (nI 0)) 247 0 i (nI 0)) 253 0 i (nI 0)) 252 0 i (nI 0) = h1 at f1 g1 g2 g3 g4 g5 g6 ⊢
    have hh := m_has (d + 3) hi12 (SrcM_fr f1 (hS i hi12))
    refine br_le (by omega) (by omega) (fun g => by omega) (fun _ => ⟨i1, i1, i1, i1, cal_i hh f1.1 (brI (fun g => ?_) (fun g => ?_))⟩)
    · have e : P i = [] := by
        by_cases w : P i = []
        · exact w
        · exact absurd w (of_decide_eq_false g)
      refine ih (i + 1) h1 (by omega) f1 g5 (fun p hp => ?_)
      by_cases q : p = i
      · rw [q, e]
        exact ⟨g1, All_nil, g2, All_nil, g4, g3, All_nil, fun w => absurd rfl w⟩
      · exact g6 p (by omega)
    · have hne : P i ≠ [] := of_decide_eq_true g
      have hs := SrcM_fr f1 (hS i hi12)
      refine cp_v (m_layOwn d hi12 (hP i hi12).1 hne (hP i hi12).2 (by rw [hs.2.2.1, if_neg hne]) hs.2.2.2) f1.1 (fun h2 k _ => ?_)
      obtain ⟨k1, k2, k3, k4, k5, k6, k7⟩ := k
      have fr : ∀ f k, ¬ SOwn i f k → hI h2 f 0 k = hI h1 f 0 k := fun f k n => k7.2.2.2 f 0 k fun w => n w.2
      refine ih (i + 1) h2 (by omega) (f1.tr (k7.mo fun f k w => by unfold SOwn SLk at w; unfold SLay; omega)) (by rw [fr 233 5 (by unfold SOwn SLk; omega)]; exact g5) (fun p hp => ?_)
      by_cases q : p = i
      · rw [q]
        refine ⟨?_, All_nil, k1, All_mo k2 fun j y hj c => ⟨c.1, c.2.1, c.2.2⟩, k4, k5, k6, fun _ => k3⟩
        rw [fr 241 i (by unfold SOwn SLk; omega)]
        exact g1
      · exact LdP_cong (Nat.zero_le _) (bds hP (by omega)).1 (bds hP (by omega)).2 (fun f k w => fr f k (by unfold Reg at w; unfold SOwn SLk; omega)) (g6 p (by omega))
/-- isLaid: if so, it is laid -/
def IsLd (h : Hp) (P : Nat → List Line) : Prop := ∃ b : Bool, hI h 233 0 5 = bI b ∧ (b = true → LaidM h P)
theorem m_layAll (d : Nat) (hP : gP P) (hS : ∀ q, q < 12 → SrcM σ q (P q)) (hX : ∀ p, p < 12 → ∃ x, XFin P p x ∧ x.2.2.1.length ≤ 100) (hL : IsLd σ P) : PV (d + 5) 157 [vr 233 0] σ (fun h => LaidM h P ∧ hI h 233 0 5 = nI 1 ∧ FrM SLay σ h) := by
  refine PV_of mt_157 (Nat.le_of_ble_eq_true rfl) fun Q hq => ?_
  obtain ⟨b, b1, b2⟩ := hL
  refine wp_ok (cut := [15, 70]) ma_157 rfl 8 _ _ _ _ ?_
  show (((hI σ 233 0 5) = 0 → (((nI 1) = 0 ∨ (nI 1) = 1) ∧ Sat true (d + 5) 157 σ.1 Q 15 [some (vr 233 0), some (vi (nI 0))] [] (setI σ 233 0 5 (nI 1)))) ∧ (¬ (hI σ 233 0 5) = 0 → (Q none σ ∧ σ.1 = σ.1)))
  rw [b1]
  refine brI (fun g => ?_) (fun g => ?_)
  · exact ⟨Or.inr rfl, s_lay1 hP hS hX (fun h k1 k2 k3 => hq h ⟨k1, k2, k3⟩) 12 0 _ (by omega) ((FrM.rfl' SLay σ).sI (f := 233) (Or.inr ⟨rfl, Or.inl rfl⟩) _) (hI_s _ _ _ _ _) (fun p hp => absurd hp (Nat.not_lt_zero _))⟩
  · exact ⟨hq σ ⟨b2 g, by rw [b1, g]; rfl, FrM.rfl' _ _⟩, rfl⟩
end
