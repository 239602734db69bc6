/-! where the law begins: refs that are right may be taken as fixed -/
theorem arrV_cg (cA : ClassId) (n : Nat) {f g : Nat → Value} (h : ∀ j, j < n → f j = g j) : arrV cA n f = arrV cA n g := by
  unfold arrV
  have : (fun j : Fin n => f j.val) = fun j : Fin n => g j.val := funext fun j => h j.val j.isLt
  rw [this]
theorem rdf_cg {σ τ : Hp} {ci f p j : Nat} (e1 : hI τ = hI σ) (e2 : hL τ = hL σ) (e3 : hR τ f p j = hR σ f p j) : rdf false τ ci f p j = rdf false σ ci f p j := by
  unfold rdf rdr
  rw [e1, e2]
  split
  · rfl
  · rfl
  · rfl
  · exact congrArg (fun q => Sum.inr (Sum.inr q)) e3
theorem vq_re {D : va_G} {cl : List vw_C} {dT : Nat → ClassId} {z b ad : Nat} {σ τ : Hp} {a : Nat × Nat} {H : Heap} (e1 : hI τ = hI σ) (e2 : hL τ = hL σ) (e3 : ∀ k, k < (fkd a.1).2 → hR τ a.1 a.2 k = hR σ a.1 a.2 k) (h : va_at D cl (ad, cellE false dT z b σ a) H) : va_at D cl (ad, cellE false dT z b τ a) H := by
  unfold cellE at h ⊢
  by_cases c : (fkd a.1).1 < 20
  · rw [if_pos c] at h ⊢
    have e : ((List.range (fkd a.1).2).map fun j => cvv z b (rdf false τ (fkd a.1).1 a.1 a.2 j)) = (List.range (fkd a.1).2).map fun j => cvv z b (rdf false σ (fkd a.1).1 a.1 a.2 j) := List.map_congr_left fun j hj => by rw [rdf_cg e1 e2 (e3 j (List.mem_range.mp hj))]
    rw [e]
    exact h
  · rw [if_neg c] at h ⊢
    rw [e1, e2]
    by_cases c2 : (fkd a.1).1 = 22
    · rw [if_pos c2] at h ⊢
      exact h
    · rw [if_neg c2] at h ⊢
      by_cases c3 : (fkd a.1).1 < 22
      · rw [if_pos c3] at h ⊢
        exact h
      · rw [if_neg c3] at h ⊢
        have h : H[ad]? = some (arrV (dT (fkd a.1).1) (fkd a.1).2 (fun j => va_rf ((rdr false σ a.1 a.2 j).map (adr z b)))) := h
        show H[ad]? = some (arrV (dT (fkd a.1).1) (fkd a.1).2 (fun j => va_rf ((rdr false τ a.1 a.2 j).map (adr z b))))
        rw [h]
        refine congrArg some (arrV_cg _ _ fun j hj => ?_)
        show va_rf ((hR σ a.1 a.2 j).map (adr z b)) = va_rf ((hR τ a.1 a.2 j).map (adr z b))
        rw [e3 j hj]
theorem HI_re {D : va_G} {dT : Nat → ClassId} {z b : Nat} {σ : Hp} {U : State} {H : Heap} (e3 : ∀ i, i + 1 < σ.1.1 → ∀ k, k < (fkd (fa (i + 1)).1).2 → hR (fill σ) (fa (i + 1)).1 (fa (i + 1)).2 k = hR σ (fa (i + 1)).1 (fa (i + 1)).2 k) (h : HI false D dT z b σ U H) : HI false D dT z b (fill σ) U H := by
  obtain ⟨h1, h2, h3, h4, h5, h6, h7, -⟩ := h
  refine ⟨h1, fun i q hq => ?_, h3, h4, h5, h6, h7, fun w => by cases w⟩
  obtain ⟨hi, eq⟩ := wsl_in hq
  rw [eq]
  exact vq_re (σ := σ) (τ := fill σ) rfl rfl (e3 i hi) (h2 i _ (wsl_at false dT z b σ hi))
theorem Sat_re {d mi : Nat} {B : Nat × Nat × Nat} {Q : Option AV → Hp → Prop} {pc : Nat} {ls : Ls} {st : List AV} {σ : Hp} (e3 : ∀ i, i + 1 < σ.1.1 → ∀ k, k < (fkd (fa (i + 1)).1).2 → hR (fill σ) (fa (i + 1)).1 (fa (i + 1)).2 k = hR σ (fa (i + 1)).1 (fa (i + 1)).2 k) (h : Sat false d mi B Q pc ls st (fill σ)) : Sat false d mi B Q pc ls st σ := by
  intro me hme p l e R s m args below meth c Qm D dT z b n0 t0 X hB1 hB2 hz hret H locs arr kc ks hH hS hL h1 h2
  exact h me hme p l e R s m args below meth c Qm D dT z b n0 t0 X hB1 hB2 hz hret H locs arr kc ks (HI_re e3 hH) hS hL h1 h2
theorem srf_c {f p k : Nat} {a : Nat × Nat} (h : srf f p k = some a) : (f = 18 ∧ a = (21, k)) ∨ (f = 19 ∧ a = (32, k)) ∨ ∃ g, (k, g) ∈ srT.getD f [] ∧ a = (g, p) := by
  by_cases c1 : f = 18
  · subst c1
    exact Or.inl ⟨rfl, (Option.some.inj h).symm⟩
  · by_cases c2 : f = 19
    · subst c2
      exact Or.inr (Or.inl ⟨rfl, (Option.some.inj h).symm⟩)
    · refine Or.inr (Or.inr ?_)
      unfold srf at h
      split at h
      · exact absurd rfl c1
      · exact absurd rfl c2
      · cases e : lkI (srT.getD f []) k with
        | none => rw [e] at h; cases h
        | some g =>
          rw [e] at h
          exact ⟨g, lk_mem e, (Option.some.inj h).symm⟩
theorem sr_dom : ∀ f, f < 266 → srT.getD f [] ≠ [] → f = 1 ∨ f = 7 ∨ f = 8 ∨ f = 21 ∨ f = 32 ∨ f = 225 ∨ f = 229 ∨ f = 233 := by decide +kernel
/-- everything is made -/
def MkA (h : Hp) : Prop := h.1.1 = 266 ∧ Rf h 1 0 ∧ Rf h 7 0 ∧ Rf h 8 0 ∧ (∀ q, q < 12 → Rf h 21 q ∧ Rf h 32 q ∧ hR h 18 0 q = some (21, q) ∧ hR h 19 0 q = some (32, q)) ∧ Rf h 225 0 ∧ Rf h 229 0 ∧ Rf h 233 0
theorem MkA_re {h : Hp} (k : MkA h) : ∀ i, i + 1 < h.1.1 → ∀ j, j < (fkd (fa (i + 1)).1).2 → hR (fill h) (fa (i + 1)).1 (fa (i + 1)).2 j = hR h (fa (i + 1)).1 (fa (i + 1)).2 j := by
  obtain ⟨k0, k1, k7, k8, kp, k225, k229, k233⟩ := k
  intro i hi j hj
  rw [k0] at hi
  have fc : ∃ f p, fa (i + 1) = (f, p) ∧ f < 266 ∧ ((f < 21 ∧ p = 0) ∨ (21 ≤ f ∧ f ≤ 37 ∧ p < 12) ∨ (225 ≤ f ∧ p = 0)) := by
    by_cases c1 : i + 1 < 21
    · exact ⟨i + 1, 0, fa_0 c1, by omega, Or.inl ⟨c1, rfl⟩⟩
    · by_cases c2 : i + 1 < 225
      · refine ⟨21 + (i + 1 - 21) % 17, (i + 1 - 21) / 17, ?_, by omega, Or.inr (Or.inl ⟨by omega, by omega, by omega⟩)⟩
        unfold fa
        rw [if_neg c1, if_pos c2]
      · exact ⟨i + 1, 0, fa_q (by omega) hi, hi, Or.inr (Or.inr ⟨by omega, rfl⟩)⟩
  obtain ⟨f, p, ef, hf, hc⟩ := fc
  rw [ef] at hj ⊢
  show hR (fill h) f p j = hR h f p j
  have hj : j < (fkd f).2 := hj
  rw [fill_R]
  unfold rdr
  cases e : srf f p j with
  | none => rfl
  | some a =>
    simp only [e]
    rcases srf_c e with ⟨e1, e2⟩ | ⟨e1, e2⟩ | ⟨g, m1, m2⟩
    · subst e1
      have hj : j < 12 := hj
      have hp0 : p = 0 := by omega
      rw [hp0, e2]
      exact ((kp j hj).2.2.1).symm
    · subst e1
      have hj : j < 12 := hj
      have hp0 : p = 0 := by omega
      rw [hp0, e2]
      exact ((kp j hj).2.2.2).symm
    · rw [m2]
      rcases sr_dom f hf (fun w => by rw [w] at m1; cases m1) with w | w | w | w | w | w | w | w
      · subst w
        have hp0 : p = 0 := by omega
        subst hp0
        exact (k1 (j, g) m1).symm
      · subst w
        have hp0 : p = 0 := by omega
        subst hp0
        exact (k7 (j, g) m1).symm
      · subst w
        have hp0 : p = 0 := by omega
        subst hp0
        exact (k8 (j, g) m1).symm
      · subst w
        exact ((kp p (by omega)).1 (j, g) m1).symm
      · subst w
        exact ((kp p (by omega)).2.1 (j, g) m1).symm
      · subst w
        have hp0 : p = 0 := by omega
        subst hp0
        exact (k225 (j, g) m1).symm
      · subst w
        have hp0 : p = 0 := by omega
        subst hp0
        exact (k229 (j, g) m1).symm
      · subst w
        have hp0 : p = 0 := by omega
        subst hp0
        exact (k233 (j, g) m1).symm
/-! the state with which both begin -/
def x0 : DB := (fun _ => [], [], [])
theorem XF_0 (p : Nat) : XF x0.1 p = (0, 0, [], 0) := XF_is (XFin_nil rfl)
theorem gX_0 : gX x0.1 := fun p _ => by
  rw [XF_0]
  exact ⟨XFin_nil rfl, Nat.zero_le _⟩
theorem InP_0 : InP [] x0 := ⟨gX_0, List.nodup_nil, Nat.zero_le _, fun y hy => by cases hy⟩
theorem InC_0 {h : Hp} (z : Zr h) (own : ∀ q, q < 12 → hI h 21 q 0 = nI q) (h3 : ∀ k, hR h 3 0 k = none) : InC h 0 0 (fun _ => 0) [] x0 := by
  have zz : ∀ f p k, f ≠ 0 → ¬ NZ f k → hI h f p k = nI 0 := z
  refine ⟨pd_0 _ (zz 1 0 1 (by omega) (by unfold NZ; omega)), ⟨fun p hp => ?_, fun p hp => ?_, fun p hp => ?_, ?_, ?_⟩, zz 1 0 7 (by omega) (by unfold NZ; omega), Nat.le_refl _, by omega, fun _ => 0, fun k hk => absurd hk (Nat.not_lt_zero _), fun k _ _ => h3 k, fun i j _ hj => absurd hj (Nat.not_lt_zero _), fun j x hx => by cases hx⟩
  · exact ⟨fun l hl => (by cases hl), Nat.zero_le _, zz 10 0 p (by omega) (by unfold NZ; omega), trivial⟩
  · exact ⟨⟨own p hp, zz 21 p 1 (by omega) (by unfold NZ; omega), fun j x hx => (by cases hx), zz 21 p 6 (by omega) (by unfold NZ; omega), zz 21 p 7 (by omega) (by unfold NZ; omega), zz 21 p 13 (by omega) (by unfold NZ; omega), fun j x hx => (by cases hx)⟩, zz 21 p 8 (by omega) (by unfold NZ; omega), fun j x hx => by cases hx⟩
  · rw [XF_0]
    exact ⟨zz 32 p 0 (by omega) (by unfold NZ; omega), zz 32 p 1 (by omega) (by unfold NZ; omega), ⟨zz 32 p 2 (by omega) (by unfold NZ; omega), Nat.zero_le _, fun j x hx => by cases hx⟩, fun j hj => absurd hj (Nat.not_lt_zero _), Nat.le_refl _, Nat.zero_le _, Nat.zero_le _⟩
  · exact ⟨zz 8 0 2 (by omega) (by unfold NZ; omega), Nat.zero_le _, fun j x hx => by cases hx⟩
  · exact ⟨zz 8 0 7 (by omega) (by unfold NZ; omega), Nat.zero_le _, fun j x hx => by cases hx⟩
theorem InM_0 {h : Hp} (z : Zr h) (s6 : ∀ q, q < 12 → hI h 235 0 (1920 + q) = (-6)) : InM h 0 (fun _ => 0) [] x0 := by
  have zz : ∀ f p k, f ≠ 0 → ¬ NZ f k → hI h f p k = nI 0 := z
  refine ⟨pm_0 _ (zz 233 0 1 (by omega) (by unfold NZ; omega)), MS_of (x := x0) ⟨fun p hp => ⟨fun l hl => (by cases hl), Nat.zero_le _, ?_, trivial⟩, ⟨zz 235 0 2268 (by omega) (by unfold NZ; omega), Nat.zero_le _, fun j x hx => by cases hx⟩, ⟨zz 235 0 2829 (by omega) (by unfold NZ; omega), Nat.zero_le _, fun j x hx => by cases hx⟩⟩ gX_0 (zz 233 0 5 (by omega) (by unfold NZ; omega)), zz 233 0 4 (by omega) (by unfold NZ; omega), Nat.zero_le _, fun j x hx => by cases hx⟩
  rw [s6 p hp]
  rfl
