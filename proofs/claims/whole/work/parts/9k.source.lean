/-! the class's Site: replaceSource, restore -/
noncomputable def XF (P : Nat → List Line) (r : Nat) : XA := Classical.epsilon (fun x => XFin P r x)
theorem XF_is {P : Nat → List Line} {r : Nat} {x : XA} (h : XFin P r x) : XF P r = x := XFin_one (Classical.epsilon_spec (p := fun x => XFin P r x) ⟨x, h⟩) h
def gX (P : Nat → List Line) : Prop := ∀ p, p < 12 → XFin P p (XF P p) ∧ (XF P p).2.2.1.length ≤ 100
theorem ExsC_X {h : Hp} {P : Nat → List Line} (k : ExsC h P) : gX P ∧ ∀ p, p < 12 → ExC h P p (XF P p) := by
  have : ∀ p, p < 12 → XFin P p (XF P p) ∧ ExC h P p (XF P p) := fun p hp => by
    obtain ⟨x, x1, x2⟩ := k p hp
    rw [XF_is x1]
    exact ⟨x1, x2⟩
  refine ⟨fun p hp => ⟨(this p hp).1, ?_⟩, fun p hp => (this p hp).2⟩
  obtain ⟨-, -, -, -, a, b, -⟩ := (this p hp).2
  omega
def updP (P : Nat → List Line) (p : Nat) (ls : List Line) (q : Nat) : List Line := if q = p then ls else P q
theorem updP_s (P : Nat → List Line) (p : Nat) (ls : List Line) : updP P p ls p = ls := if_pos rfl
theorem updP_o (P : Nat → List Line) {p q : Nat} (ls : List Line) (h : q ≠ p) : updP P p ls q = P q := if_neg h
theorem gP_upd {P : Nat → List Line} {p : Nat} {ls : List Line} (hP : gP P) (h1 : gPg ls) (h2 : (txPg ls).length ≤ 160) : gP (updP P p ls) := fun q hq => by
  by_cases c : q = p
  · rw [c, updP_s]; exact ⟨h1, h2⟩
  · rw [updP_o _ _ c]; exact hP q hq
def SSo (f i : Nat) : Prop := ((f = 9 ∨ f = 10) ∧ i = 0) ∨ (21 ≤ f ∧ f ≤ 37)
def SRe (f i : Nat) : Prop := ((8 ≤ f ∧ f ≤ 17) ∧ i = 0) ∨ (21 ≤ f ∧ f ≤ 37)
section
variable {σ : Hp} {P : Nat → List Line} {X : Nat → XA} {rs : List (Pl × Pl)} {es : List En}
set_option maxRecDepth 6000 in
theorem e_replaceSource (d : Nat) (cs : CS σ P X rs es) {p n : Nat} {ls : List Line} (hp : p < 12) (hg : gPg ls) (hn : n = (txPg ls).length) (h160 : n ≤ 160) (ht : Tx (hI σ 2 0) 0 (txPg ls)) : PV (d + 18) 49 [vr 7 0, vi (nI p), vr 2 0, vi (nI n)] σ (fun h => CS h (updP P p ls) (XF (updP P p ls)) rs es ∧ gX (updP P p ls) ∧ Fr SSo σ h) := by
  refine PV_of mt_49 (Nat.le_of_ble_eq_true rfl) fun Q hq => ?_
  subst hn
  have hP : gP P := fun q hq => ⟨(cs.1 q hq).1, (cs.1 q hq).2.1⟩
  have hP' : gP (updP P p ls) := gP_upd hP hg h160
  refine wp_ok (cut := []) ma_49 rfl 22 _ _ _ _ ?_
  show (¬ (nI 0) < 0 ∧ ¬ ((nI p) * (nI 160)) < 0 ∧ ¬ (nI (txPg ls).length) < 0 ∧ 0 + (nI (txPg ls).length).toNatClampNeg ≤ 160 ∧ ((nI p) * (nI 160)).toNatClampNeg + (nI (txPg ls).length).toNatClampNeg ≤ 1920 ∧ (vp_in (nI p) 12 ∧ CalV true (d + 17) 51 [vr 7 0, vi (nI p)] (setI (cpI σ 2 0 0 9 0 (((nI p) * (nI 160)).toNatClampNeg) ((nI (txPg ls).length).toNatClampNeg)) 10 0 ((nI p).toNatClampNeg) (nI (txPg ls).length)) σ.1 (fun s1 => CalV true (d + 17) 52 [vr 7 0] s1 σ.1 (fun s2 => (Q none s2 ∧ s2.1 = σ.1)))))
  rw [mulN, ix (n := p * 160) (by omega), ix (n := p) (by omega), ix (n := (txPg ls).length) (by omega)]
  refine ⟨nn0 0 (by omega), nn0 _ (by omega), nn0 _ (by omega), by omega, by omega, inb (by omega) (by omega), ?_⟩
  have fr1 : Fr SSo σ (setI (cpI σ 2 0 0 9 0 (p * 160) (txPg ls).length) 10 0 p (nI (txPg ls).length)) := ((Fr.rfl' SSo σ).cI (g := 9) (Or.inl ⟨Or.inl rfl, rfl⟩)).sI (f := 10) (Or.inl ⟨Or.inr rfl, rfl⟩) _ _
  generalize eh : setI (cpI σ 2 0 0 9 0 (p * 160) (txPg ls).length) 10 0 p (nI (txPg ls).length) = h1 at fr1 ⊢
  have src : ∀ q, q < 12 → SrcC h1 0 q (updP P p ls q) := by
    intro q hq
    by_cases c : q = p
    · rw [c, updP_s, ← eh]
      refine ⟨hg, h160, hI_s _ _ _ _ _, Tx_sh ht fun k hk => ?_⟩
      rw [hI_f _ _ _ (by omega), hI_cp, if_pos ⟨by omega, by omega⟩]
      congr 1
      omega
    · rw [updP_o _ _ c, ← eh]
      obtain ⟨s1, s2, s3, s4⟩ := cs.1 q hq
      refine ⟨s1, s2, ?_, Tx_cong s4 fun k a b => ?_⟩
      · rw [hI_k _ _ _ _ c, hI_cpf _ (by omega)]
        exact s3
      · rw [hI_f _ _ _ (by omega), hI_cp, if_neg (by omega)]
  have e21 : ∀ g i, 11 ≤ g → g ≤ 37 → hI h1 g i = hI σ g i ∧ hL h1 g i = hL σ g i := fun g i a b => by
    rw [← eh]
    exact ⟨by rw [hI_f _ _ _ (by omega), hI_cpf _ (by omega)], rfl⟩
  have own : hI h1 21 p 0 = nI p := by rw [(e21 21 p (by omega) (by omega)).1]; exact (cs.2.1 p hp).1.1
  refine cp_v (e_readSource (d + 12) hp own (by have := src p hp; rw [updP_s] at this; exact this)) fr1.1 (fun h2 q2 e2 => ?_)
  have outs : ∀ q, q < 12 → OutC h2 q (160 * q) (updP P p ls q) := by
    intro q hq
    by_cases c : q = p
    · rw [c, updP_s]; exact q2.1
    · rw [updP_o _ _ c]
      refine OutC_fr q2.2 (fun g a b w => c w.2) ?_
      have k := cs.2.1 q hq
      exact ⟨OI_cong (fun k _ => by rw [(e21 21 q (by omega) (by omega)).1]) (fun f a b _ => e21 f q (by omega) (by omega)) k.1, by rw [(e21 21 q (by omega) (by omega)).1]; exact k.2.1, All_mo k.2.2 fun j y _ w => ⟨by rw [(e21 26 q (by omega) (by omega)).1]; exact w.1, by rw [(e21 27 q (by omega) (by omega)).2]; exact w.2.1, by rw [(e21 28 q (by omega) (by omega)).1]; exact w.2.2.1, by rw [(e21 29 q (by omega) (by omega)).1]; exact w.2.2.2⟩⟩
  have fr2 : Fr SSo σ h2 := fr1.tr (q2.2.mo fun f i w => Or.inr ⟨w.1.1, by have := w.1.2; omega⟩)
  refine cp_v (e_expandAll d hP' (fun q hq => (outs q hq).1)) (e2) (fun h3 q3 e3 => ?_)
  have fr3 : Fr SSo σ h3 := fr2.tr (q3.2.mo fun f i w => Or.inr ⟨by have := w.1; omega, w.2⟩)
  obtain ⟨gx, ex⟩ := ExsC_X q3.1
  refine ⟨hq h3 ⟨⟨fun q hq => ?_, fun q hq => ?_, ex, ?_, ?_⟩, gx, fr3⟩, fr3.1⟩
  · exact SrcC_fr q3.2 (fun w => by have := w.1; omega) (fun w => by have := w.1; omega) (SrcC_fr q2.2 (fun w => by have := w.1.1; omega) (fun w => by have := w.1.1; omega) (src q hq))
  · exact OutC_fr q3.2 (fun g a b w => by have := w.1; omega) (outs q hq)
  · have h8 : ∀ g, 8 ≤ g → g ≤ 17 → g ≠ 9 → g ≠ 10 → hI h3 g 0 = hI σ g 0 ∧ hL h3 g 0 = hL σ g 0 := fun g a b c e => by
      have := fr3.2 g 0 (fun w => by unfold SSo at w; omega)
      exact ⟨this.1, this.2.1⟩
    obtain ⟨r1, r2, r3⟩ := cs.2.2.2.1
    exact ⟨by rw [(h8 8 (by omega) (by omega) (by omega) (by omega)).1]; exact r1, r2, All_mo r3 fun j y _ w => ⟨by rw [(h8 11 (by omega) (by omega) (by omega) (by omega)).1]; exact w.1, by rw [(h8 12 (by omega) (by omega) (by omega) (by omega)).2]; exact w.2.1, by rw [(h8 13 (by omega) (by omega) (by omega) (by omega)).1]; exact w.2.2.1, by rw [(h8 14 (by omega) (by omega) (by omega) (by omega)).2]; exact w.2.2.2.1, w.2.2.2.2⟩⟩
  · have h8 : ∀ g, 8 ≤ g → g ≤ 17 → g ≠ 9 → g ≠ 10 → hI h3 g 0 = hI σ g 0 ∧ hL h3 g 0 = hL σ g 0 := fun g a b c e => by
      have := fr3.2 g 0 (fun w => by unfold SSo at w; omega)
      exact ⟨this.1, this.2.1⟩
    obtain ⟨r1, r2, r3⟩ := cs.2.2.2.2
    exact ⟨by rw [(h8 8 (by omega) (by omega) (by omega) (by omega)).1]; exact r1, r2, All_mo r3 fun j y _ w => ⟨by rw [(h8 15 (by omega) (by omega) (by omega) (by omega)).1]; exact w.1, by rw [(h8 16 (by omega) (by omega) (by omega) (by omega)).2]; exact w.2.1, by rw [(h8 17 (by omega) (by omega) (by omega) (by omega)).1]; exact w.2.2.1, w.2.2.2⟩⟩
theorem e_restore (d : Nat) {j : Nat} {x : DB} (hj : 266 + 10 * j < σ.1.1) (hx : DBC σ (j+1) x) (own : ∀ p, p < 12 → hI σ 21 p 0 = nI p) : PV (d + 18) 50 [vr 7 0, vr 8 (j+1)] σ (fun h => CS h x.1 (XF x.1) x.2.1 x.2.2 ∧ gX x.1 ∧ Fr SRe σ h) := by
  refine PV_of mt_50 (Nat.le_of_ble_eq_true rfl) fun Q hq => ?_
  have hP : gP x.1 := fun q hq => ⟨(hx.1 q hq).1, (hx.1 q hq).2.1⟩
  have loop : ∀ (n i : Nat) (h : Hp), i + n = 12 → DBC h 0 x → (∀ p, p < i → OutC h p (160 * p) (x.1 p)) → (∀ p, p < 12 → hI h 21 p 0 = nI p) → Fr SRe σ h → Sat true (d + 18) 50 σ.1 Q 10 [some (vr 7 0), some (vr 8 (j+1)), some (vi (nI i))] [] h := by
    intro n
    induction n with
    | zero =>
      intro i h hi k1 k2 k3 f
      have hi : i = 12 := hi
      subst hi
      refine wp_ok (cut := [10]) ma_50 rfl 8 _ _ _ _ ?_
      show (((nI 12) ≤ (nI 12) → CalV true (d + 17) 52 [vr 7 0] h σ.1 (fun s1 => (Q none s1 ∧ s1.1 = σ.1))) ∧ (¬ (nI 12) ≤ (nI 12) → CalV true (d + 17) 51 [vr 7 0, vi (nI 12)] h σ.1 (fun s2 => Sat true (d + 18) 50 σ.1 Q 10 [some (vr 7 0), some (vr 8 (j+1)), some (vi ((nI 12) + nI 1))] [] s2)))
      refine br_le (by omega) (by omega) (fun _ => ?_) (fun g => by omega)
      refine cp_v (e_expandAll d hP (fun q hq => (k2 q hq).1)) f.1 (fun h3 q3 e3 => ?_)
      have fr3 : Fr SRe σ h3 := f.tr (q3.2.mo fun f i w => Or.inr ⟨by have := w.1; omega, w.2⟩)
      obtain ⟨gx, ex⟩ := ExsC_X q3.1
      have k4 : DBC h3 0 x := DBC_fr q3.2 (fun g a b w => by have := w.1; omega) k1
      exact ⟨hq h3 ⟨⟨k4.1, fun q hq => OutC_fr q3.2 (fun g a b w => by have := w.1; omega) (k2 q hq), ex, k4.2.1, k4.2.2⟩, gx, fr3⟩, fr3.1⟩
    | succ n ih =>
      intro i h hi k1 k2 k3 f
      refine wp_ok (cut := [10]) ma_50 rfl 8 _ _ _ _ ?_
      show (((nI 12) ≤ (nI i) → CalV true (d + 17) 52 [vr 7 0] h σ.1 (fun s1 => (Q none s1 ∧ s1.1 = σ.1))) ∧ (¬ (nI 12) ≤ (nI i) → CalV true (d + 17) 51 [vr 7 0, vi (nI i)] h σ.1 (fun s2 => Sat true (d + 18) 50 σ.1 Q 10 [some (vr 7 0), some (vr 8 (j+1)), some (vi ((nI i) + nI 1))] [] s2)))
      rw [addN]
      refine br_le (by omega) (by omega) (fun g => by omega) (fun _ => ?_)
      refine cp_v (e_readSource (d + 12) (by omega) (k3 i (by omega)) (k1.1 i (by omega))) f.1 (fun h2 q2 e2 => ?_)
      refine ih (i + 1) h2 (by omega) (DBC_fr q2.2 (fun g a b w => by have := w.1.1; omega) k1) (fun p hp => ?_) (fun p hp => ?_) (f.tr (q2.2.mo fun f i w => Or.inr ⟨w.1.1, by have := w.1.2; omega⟩))
      · by_cases c : p = i
        · rw [c]; exact q2.1
        · exact OutC_fr q2.2 (fun g a b w => c w.2) (k2 p (by omega))
      · by_cases c : p = i
        · rw [c]; exact q2.1.1.1
        · rw [(q2.2.2 21 p (fun w => c w.2)).1]; exact k3 p hp
  refine wp_ok (cut := [10]) ma_50 rfl 6 _ _ _ _ ?_
  show CalV true (d + 17) 59 [vr 8 0, vr 8 (j+1)] σ σ.1 (fun s1 => Sat true (d + 18) 50 σ.1 Q 10 [some (vr 7 0), some (vr 8 (j+1)), some (vi (nI 0))] [] s1)
  refine cp_v (e_becomeFr (d + 16) hj hx) rfl (fun h1 q1 e1 => ?_)
  exact loop 12 0 h1 (by omega) q1.1 (fun p hp => absurd hp (Nat.not_lt_zero _)) (fun p hp => by rw [(q1.2.2 21 p (fun w => by have := w.1.2; omega)).1]; exact own p hp) (q1.2.mo fun f i w => Or.inl w)
end
