/-! the class's site; about -/
def CS (σ : Hp) (P : Nat → List Line) (X : Nat → XA) (rs : List (Pl × Pl)) (es : List En) : Prop := (∀ p, p < 12 → SrcC σ 0 p (P p)) ∧ (∀ p, p < 12 → OutC σ p (160 * p) (P p)) ∧ (∀ p, p < 12 → ExC σ P p (X p)) ∧ RdsC σ 0 rs ∧ EnsC σ 0 es
theorem OutC_fr {S : Nat → Nat → Prop} {σ h : Hp} {p o : Nat} {ls : List Line} (f : Fr S σ h) (n : ∀ g, 21 ≤ g → g ≤ 31 → ¬ S g p) (k : OutC σ p o ls) : OutC h p o ls := by
  have e : ∀ g, 21 ≤ g → g ≤ 31 → hI h g p = hI σ g p ∧ hL h g p = hL σ g p := fun g a b => ⟨(f.2 g p (n g a b)).1, (f.2 g p (n g a b)).2.1⟩
  refine ⟨OI_cong (fun k _ => by rw [(e 21 (by omega) (by omega)).1]) (fun g a b _ => e g (by omega) b) k.1, by rw [(e 21 (by omega) (by omega)).1]; exact k.2.1, All_mo k.2.2 fun j y _ q => ⟨?_, ?_, ?_, ?_⟩⟩
  · rw [(e 26 (by omega) (by omega)).1]; exact q.1
  · rw [(e 27 (by omega) (by omega)).2]; exact q.2.1
  · rw [(e 28 (by omega) (by omega)).1]; exact q.2.2.1
  · rw [(e 29 (by omega) (by omega)).1]; exact q.2.2.2
theorem CS_fr {S : Nat → Nat → Prop} {σ h : Hp} {P : Nat → List Line} {X : Nat → XA} {rs : List (Pl × Pl)} {es : List En} (f : Fr S σ h) (n : ∀ g i, 8 ≤ g → g ≤ 37 → i < 12 → ¬ S g i) (k : CS σ P X rs es) : CS h P X rs es := ⟨fun p hp => SrcC_fr f (n 9 0 (by omega) (by omega) (by omega)) (n 10 0 (by omega) (by omega) (by omega)) (k.1 p hp), fun p hp => OutC_fr f (fun g a b => n g p (by omega) (by omega) hp) (k.2.1 p hp), fun p hp => ExC_cong (fun g a b => ⟨(f.2 g p (n g p (by omega) (by omega) hp)).1, (f.2 g p (n g p (by omega) (by omega) hp)).2.1⟩) (k.2.2.1 p hp), RdsC_fr f (fun g a b => n g 0 (by omega) (by omega) (by omega)) k.2.2.2.1, EnsC_fr f (fun g a b => n g 0 (by omega) (by omega) (by omega)) k.2.2.2.2⟩
theorem rng_lo {x : Int32} {n : Nat} (h : x < 0) : rngI x n = false := decide_eq_false fun w => Int32.not_lt.mpr w.1 h
theorem rng_hi {x : Int32} {m : Nat} (hm : m + 1 < 2147483648) (h : ¬ x ≤ nI m) : rngI x (m + 1) = false := decide_eq_false fun w => h (by
  have w := w.2
  rw [fa_lt, nI_toInt (by omega)] at w
  rw [fa_le, nI_toInt (by omega)]
  omega)
theorem rng_in {x : Int32} {m : Nat} (hm : m + 1 < 2147483648) (h0 : ¬ x < 0) (h : x ≤ nI m) : rngI x (m + 1) = true := decide_eq_true ⟨not_ltI h0, by
  rw [fa_le, nI_toInt (by omega)] at h
  rw [fa_lt, nI_toInt (by omega)]
  omega⟩
theorem m_inR (d : Nat) (σ : Hp) (x : Int32) {m : Nat} (hm : m + 1 < 2147483648) : EI d 108 [vi x, vi (nI 0), vi (nI m)] σ (bI (rngI x (m + 1))) σ := by
  have e : decide (nI 0 ≤ x ∧ x ≤ nI m) = rngI x (m + 1) := by
    unfold rngI
    refine decide_eq_decide.mpr ?_
    have a : x ≤ nI m ↔ x < nI (m + 1) := by
      rw [fa_le, fa_lt, nI_toInt (by omega), nI_toInt (by omega)]
      omega
    rw [a]
    exact Iff.rfl
  rw [← e]
  exact m_inI d σ x (nI 0) (nI m)
theorem pnil {ls : List Line} (h : decide (ls ≠ []) = false) : ls = [] := Classical.byContradiction fun q => of_decide_eq_false h q
def abN (P : Nat → List Line) (X : Nat → XA) (p : Nat) : Nat → Int32
  | 0 => nI (P p).length
  | 1 => nI (X p).1
  | 2 => nI (X p).2.2.1.length
  | 3 => nI (secs (P p)).length
  | 4 => nI (lkPg p 0 (P p)).length
  | 5 => nI (nInc (P p))
  | 6 => mInc (P p)
  | _ => (X p).2.1
def abV (P : Nat → List Line) (X : Nat → XA) (x b : Int32) : Int32 := if rngI x 12 then (if rngI b 8 then (if P x.toNatClampNeg = [] then (-5) else abN P X x.toNatClampNeg b.toNatClampNeg) else (-2)) else (-1)
theorem lk_o (p o q : Nat) : ∀ (ls : List Line) (a : Nat), lkPg p (o + a) ls = (lkPg p a ls).map fun k => (k.1, k.2.1, o + k.2.2.1, o + k.2.2.2) := by
  have els : ∀ (es : List Elem) (a : Nat), lkEls p (o + a) es = (lkEls p a es).map fun k => (k.1, k.2.1, o + k.2.2.1, o + k.2.2.2) := by
    intro es
    induction es with
    | nil => intro a; rfl
    | cons e r ih =>
      intro a
      show lkEl p (o + a) e ++ lkEls p (o + a + (txEl e).length + 1) r = (lkEl p a e ++ lkEls p (a + (txEl e).length + 1) r).map _
      rw [List.map_append, ← ih, show o + a + (txEl e).length + 1 = o + (a + (txEl e).length + 1) by omega]
      congr 1
      rcases e with _ | ⟨l, c⟩
      · rfl
      · show [(l.getD p, c, o + a + 1, o + a + 1 + (txLink l c).length)] = [(l.getD p, c, o + (a + 1), o + (a + 1 + (txLink l c).length))]
        rw [show o + a + 1 = o + (a + 1) by omega, show o + (a + 1) + (txLink l c).length = o + (a + 1 + (txLink l c).length) by omega]
  intro ls
  induction ls with
  | nil => intro a; rfl
  | cons l r ih =>
    intro a
    show lkLine p (o + a) l ++ lkPg p (o + a + (txLine l).length + 1) r = (lkLine p a l ++ lkPg p (a + (txLine l).length + 1) r).map _
    rw [List.map_append, ← ih, show o + a + (txLine l).length + 1 = o + (a + (txLine l).length + 1) by omega]
    congr 1
    rcases l with _ | _ | es
    · rfl
    · rfl
    · exact els es a
theorem lk_160 (p : Nat) (ls : List Line) : lkPg p (160 * p) ls = (lkPg p 0 ls).map fun k => (k.1, k.2.1, 160 * p + k.2.2.1, 160 * p + k.2.2.2) := lk_o p (160 * p) 0 ls 0
theorem lk_len (p : Nat) (ls : List Line) : (lkPg p (160 * p) ls).length = (lkPg p 0 ls).length := by rw [lk_160, List.length_map]
section
variable {σ : Hp} {P : Nat → List Line} {X : Nat → XA} {rs : List (Pl × Pl)} {es : List En}
theorem e_about (d : Nat) (cs : CS σ P X rs es) (x b : Int32) : EI (d + 1) 75 [vr 1 0, vi x, vi b] σ (abV P X x b) σ := by
  refine EI_of mt_75 (Nat.le_of_ble_eq_true rfl) fun Q hq => ?_
  unfold abV at hq
  refine wp_ok (cut := []) ma_75 rfl 31 _ _ _ _ ?_
  show CalI true d 93 [vi x] σ σ.1 (fun x2 s1 => ((¬ x2 = 0 → ((b < 0 → (Q (some (vi (-2))) s1 ∧ s1.1 = σ.1)) ∧ (¬ b < 0 → ((b ≤ (nI 7) → CalI true d 60 [vr 8 0, vi x] s1 σ.1 (fun x4 s3 => ((¬ x4 = 0 → (vp_in x 12 ∧ (vp_in x 12 ∧ (((b = nI 0 → (x.toNatClampNeg < 12 ∧ (Q (some (vi (hI s3 21 x.toNatClampNeg 1))) s3 ∧ s3.1 = σ.1))) ∧ ((b = nI 1 → (x.toNatClampNeg < 12 ∧ (Q (some (vi (hI s3 32 x.toNatClampNeg 0))) s3 ∧ s3.1 = σ.1))) ∧ ((b = nI 2 → (x.toNatClampNeg < 12 ∧ (Q (some (vi (hI s3 32 x.toNatClampNeg 2))) s3 ∧ s3.1 = σ.1))) ∧ ((b = nI 3 → (x.toNatClampNeg < 12 ∧ (Q (some (vi (hI s3 21 x.toNatClampNeg 13))) s3 ∧ s3.1 = σ.1))) ∧ ((b = nI 4 → (x.toNatClampNeg < 12 ∧ (Q (some (vi (hI s3 21 x.toNatClampNeg 8))) s3 ∧ s3.1 = σ.1))) ∧ ((b = nI 5 → (x.toNatClampNeg < 12 ∧ (Q (some (vi (hI s3 21 x.toNatClampNeg 6))) s3 ∧ s3.1 = σ.1))) ∧ ((b = nI 6 → (x.toNatClampNeg < 12 ∧ (Q (some (vi (hI s3 21 x.toNatClampNeg 7))) s3 ∧ s3.1 = σ.1))) ∧ True))))))) ∧ ((b.toInt < 0 ∨ 6 < b.toInt) → (x.toNatClampNeg < 12 ∧ (Q (some (vi (hI s3 32 x.toNatClampNeg 1))) s3 ∧ s3.1 = σ.1))))))) ∧ (x4 = 0 → (Q (some (vi (-5))) s3 ∧ s3.1 = σ.1))))) ∧ (¬ b ≤ (nI 7) → (Q (some (vi (-2))) s1 ∧ s1.1 = σ.1)))))) ∧ (x2 = 0 → (Q (some (vi (-1))) s1 ∧ s1.1 = σ.1))))
  refine cal_i (e_isPage d σ x) rfl (brN (fun h => ?_) (fun h => ?_))
  · rw [if_pos h] at hq
    obtain ⟨p, hp, rfl⟩ := rngI_t (by omega) h
    rw [ix (by omega)] at hq ⊢
    have oc := cs.2.1 p hp
    have ec := cs.2.2.1 p hp
    refine ⟨fun g1 => ?_, fun g1 => ⟨fun g2 => cal_i (e_hasSource d hp (cs.1 p hp)) rfl (brN (fun g => ?_) (fun g => ?_)), fun g2 => ?_⟩⟩
    · rw [rng_lo g1] at hq
      exact ⟨hq, rfl⟩
    · have rb := rng_in (m := 7) (by omega) g1 g2
      rw [if_pos rb, if_neg (of_decide_eq_true g)] at hq
      have i1 : vp_in (nI p) 12 := inb (by omega) (by omega)
      refine ⟨i1, i1, ⟨fun e => ⟨hp, ?_, rfl⟩, fun e => ⟨hp, ?_, rfl⟩, fun e => ⟨hp, ?_, rfl⟩, fun e => ⟨hp, ?_, rfl⟩, fun e => ⟨hp, ?_, rfl⟩, fun e => ⟨hp, ?_, rfl⟩, fun e => ⟨hp, ?_, rfl⟩, True.intro⟩, fun e => ⟨hp, ?_, rfl⟩⟩
      · rw [e, ix (by omega)] at hq; rw [oc.1.2.1]; exact hq
      · rw [e, ix (by omega)] at hq; rw [ec.1]; exact hq
      · rw [e, ix (by omega)] at hq; rw [ec.2.2.1.1]; exact hq
      · rw [e, ix (by omega)] at hq; rw [oc.1.2.2.2.2.2.1]; exact hq
      · rw [e, ix (by omega)] at hq; rw [oc.2.1, lk_len]; exact hq
      · rw [e, ix (by omega)] at hq; rw [oc.1.2.2.2.1]; exact hq
      · rw [e, ix (by omega)] at hq; rw [oc.1.2.2.2.2.1]; exact hq
      · obtain ⟨k, hk, rfl⟩ := rngI_t (by omega) rb
        rw [nI_toInt (by omega)] at e
        have hk7 : k = 7 := by omega
        rw [hk7, ix (by omega)] at hq
        rw [ec.2.1]
        exact hq
    · have rb := rng_in (m := 7) (by omega) g1 g2
      rw [if_pos rb, if_pos (pnil g)] at hq
      exact ⟨hq, rfl⟩
    · rw [rng_hi (by omega) g2] at hq
      exact ⟨hq, rfl⟩
  · rw [if_neg (fun w => by rw [h] at w; cases w)] at hq
    exact ⟨hq, rfl⟩
end
